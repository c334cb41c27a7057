theorem dH_town_0 : decode (xb yyH_town) 0 = .ok (.aload_n 0, 1) := by decide +kernel
theorem dH_town_1 : decode (xb yyH_town) 1 = .ok (.getfield 10, 3) := by decide +kernel
theorem dH_town_4 : decode (xb yyH_town) 4 = .ok (.getfield 68, 3) := by decide +kernel
theorem dH_town_7 : decode (xb yyH_town) 7 = .ok (.invokevirtual 71, 3) := by decide +kernel
theorem dH_town_10 : decode (xb yyH_town) 10 = .ok (.istore_n 1, 1) := by decide +kernel
theorem dH_town_11 : decode (xb yyH_town) 11 = .ok (.aload_n 0, 1) := by decide +kernel
theorem dH_town_12 : decode (xb yyH_town) 12 = .ok (.getfield 10, 3) := by decide +kernel
theorem dH_town_15 : decode (xb yyH_town) 15 = .ok (.invokevirtual 75, 3) := by decide +kernel
theorem dH_town_18 : decode (xb yyH_town) 18 = .ok (.iload_n 1, 1) := by decide +kernel
theorem dH_town_19 : decode (xb yyH_town) 19 = .ok (.ireturn, 1) := by decide +kernel
def fH_town  (m : xM) : Option (Int32 × xM) := (fB_many 0 m).bind fun r7 => (fW_empty 0 m).bind fun r15 => some (r7, r15)
set_option maxRecDepth 100000 in
set_option maxHeartbeats 4000000 in
theorem kH_town (G : xG)   (z : xM) (m : xM) : ∀ a, fH_town  m = some a → xCt G yyH_town [.ref (xa G 81)] (m, z) (some (.int a.1)) (a.2, z) := by
  refine xR_ct (em := (emic z)) rfl (Nat.le_of_ble_eq_true rfl) ?_
  show xR G yyH_town _ 0 [(0, .ref (xa G 81))] [] _ _
  unfold fH_town
  refine xR_aln 0 0 dH_town_0 rfl rfl ?_
  refine xR_getf 1 xcf6 0 81 (by decide) (by decide) rfl (v := .ref (xa G 77)) rfl fl_RX8_10 dH_town_1 ?_
  refine xR_getf 4 xcf5 0 77 (by decide) (by decide) (xC_twn (t := 0) (by decide)) (v := .ref (xa G 72)) rfl fl_RX8_68 dH_town_4 ?_
  refine xR_callVi 7 cv_B_many ml_RX8_71 ⟨Nat.le_of_ble_eq_true rfl, Nat.le_of_ble_eq_true rfl⟩ xcf0 rfl 72 (by decide) (xC_brd (b := 0) (by decide)) [] rfl rfl (Nat.le_of_ble_eq_true rfl) dH_town_7 (kB_many G 0 (by decide) z m) (fun r7 => ?_)
  refine xR_isn 10 ([(1, .int r7), (0, .ref (xa G 81))]) dH_town_10 rfl (by decide) rfl ?_
  refine xR_aln 11 1 dH_town_11 rfl rfl ?_
  refine xR_getf 12 xcf6 0 81 (by decide) (by decide) rfl (v := .ref (xa G 77)) rfl fl_RX8_10 dH_town_12 ?_
  refine xR_callVvc 15 cv_W_empty ml_RX8_75 ⟨Nat.le_of_ble_eq_true rfl, Nat.le_of_ble_eq_true rfl⟩ xcf5 rfl 77 (by decide) (xC_twn (t := 0) (by decide)) [] rfl rfl (Nat.le_of_ble_eq_true rfl) dH_town_15 (kW_empty G 0 (by decide) z m) (fun r15 => ?_)
  refine xR_iln 18 0 dH_town_18 rfl rfl ?_
  exact xR_iret 19 rfl rfl dH_town_19
theorem dH_badAs_0 : decode (xb yyH_badAs) 0 = .ok (.aload_n 0, 1) := by decide +kernel
theorem dH_badAs_1 : decode (xb yyH_badAs) 1 = .ok (.dup, 1) := by decide +kernel
theorem dH_badAs_2 : decode (xb yyH_badAs) 2 = .ok (.getfield 305, 3) := by decide +kernel
theorem dH_badAs_5 : decode (xb yyH_badAs) 5 = .ok (.iconst 1, 1) := by decide +kernel
theorem dH_badAs_6 : decode (xb yyH_badAs) 6 = .ok (.iadd, 1) := by decide +kernel
theorem dH_badAs_7 : decode (xb yyH_badAs) 7 = .ok (.putfield 305, 3) := by decide +kernel
theorem dH_badAs_10 : decode (xb yyH_badAs) 10 = .ok (.iload_n 1, 1) := by decide +kernel
theorem dH_badAs_11 : decode (xb yyH_badAs) 11 = .ok (.ireturn, 1) := by decide +kernel
def fH_badAs  (v1 : Int32) (m : xM) : Option (Int32 × xM) := some (v1, (xset m 38 2 ((m.1 38 2) + (1 : Int32))))
set_option maxRecDepth 100000 in
set_option maxHeartbeats 4000000 in
theorem kH_badAs (G : xG)   (z : xM) (m : xM) (v1 : Int32) : ∀ a, fH_badAs  v1 m = some a → xCt G yyH_badAs [.ref (xa G 81), .int v1] (m, z) (some (.int a.1)) (a.2, z) := by
  refine xR_ct (em := (emic z)) rfl (Nat.le_of_ble_eq_true rfl) ?_
  show xR G yyH_badAs _ 0 [(0, .ref (xa G 81)), (1, .int v1)] [] _ _
  unfold fH_badAs
  refine xR_aln 0 0 dH_badAs_0 rfl rfl ?_
  refine xR_dup 1 dH_badAs_1 rfl ?_
  refine xR_getf 2 xcf6 13 81 (by decide) (by decide) rfl (v := .int (m.1 38 2)) rfl fl_RX8_305 dH_badAs_2 ?_
  refine xR_ic 5 (1 : Int32) dH_badAs_5 (by decide) ?_
  refine xR_iadd 6 dH_badAs_6 ?_
  refine xR_putf 7 xcf6 13 81 (by decide) (by decide) rfl rfl rfl rfl (Nat.le_of_ble_eq_true rfl) ((xset m 38 2 ((m.1 38 2) + (1 : Int32))), z) (xW_blk (a := 38) (i := 2) (by decide) (by decide) rfl) fl_RX8_305 dH_badAs_7 ?_
  refine xR_iln 10 1 dH_badAs_10 rfl rfl ?_
  exact xR_iret 11 rfl rfl dH_badAs_11
theorem dH_bad_0 : decode (xb yyH_bad) 0 = .ok (.aload_n 0, 1) := by decide +kernel
theorem dH_bad_1 : decode (xb yyH_bad) 1 = .ok (.bipush (-2), 2) := by decide +kernel
theorem dH_bad_3 : decode (xb yyH_bad) 3 = .ok (.invokevirtual 212, 3) := by decide +kernel
theorem dH_bad_6 : decode (xb yyH_bad) 6 = .ok (.ireturn, 1) := by decide +kernel
def fH_bad  (m : xM) : Option (Int32 × xM) := (fH_badAs (-2 : Int32) m).bind fun r3 => some (r3.1, r3.2)
set_option maxRecDepth 100000 in
set_option maxHeartbeats 4000000 in
theorem kH_bad (G : xG)   (z : xM) (m : xM) : ∀ a, fH_bad  m = some a → xCt G yyH_bad [.ref (xa G 81)] (m, z) (some (.int a.1)) (a.2, z) := by
  refine xR_ct (em := (emic z)) rfl (Nat.le_of_ble_eq_true rfl) ?_
  show xR G yyH_bad _ 0 [(0, .ref (xa G 81))] [] _ _
  unfold fH_bad
  refine xR_aln 0 0 dH_bad_0 rfl rfl ?_
  refine xR_bp 1 (-2 : Int32) dH_bad_1 (by decide) ?_
  refine xR_callVic 3 cv_H_badAs ml_RX8_212 ⟨Nat.le_of_ble_eq_true rfl, Nat.le_of_ble_eq_true rfl⟩ xcf6 rfl 81 (by decide) rfl [.int (-2 : Int32)] rfl rfl (Nat.le_of_ble_eq_true rfl) dH_bad_3 (kH_badAs G z m (-2 : Int32)) (fun r3 => ?_)
  exact xR_iret 6 rfl rfl dH_bad_6
theorem dH_wet_0 : decode (xb yyH_wet) 0 = .ok (.iload_n 1, 1) := by decide +kernel
theorem dH_wet_1 : decode (xb yyH_wet) 1 = .ok (.iconst 0, 1) := by decide +kernel
theorem dH_wet_2 : decode (xb yyH_wet) 2 = .ok (.iconst 4, 1) := by decide +kernel
theorem dH_wet_3 : decode (xb yyH_wet) 3 = .ok (.invokestatic 78, 3) := by decide +kernel
theorem dH_wet_6 : decode (xb yyH_wet) 6 = .ok (.ifCond .eq 12, 3) := by decide +kernel
theorem dH_wet_9 : decode (xb yyH_wet) 9 = .ok (.iload_n 2, 1) := by decide +kernel
theorem dH_wet_10 : decode (xb yyH_wet) 10 = .ok (.iconst 0, 1) := by decide +kernel
theorem dH_wet_11 : decode (xb yyH_wet) 11 = .ok (.iconst 4, 1) := by decide +kernel
theorem dH_wet_12 : decode (xb yyH_wet) 12 = .ok (.invokestatic 78, 3) := by decide +kernel
theorem dH_wet_15 : decode (xb yyH_wet) 15 = .ok (.ifCond .ne 8, 3) := by decide +kernel
theorem dH_wet_18 : decode (xb yyH_wet) 18 = .ok (.aload_n 0, 1) := by decide +kernel
theorem dH_wet_19 : decode (xb yyH_wet) 19 = .ok (.invokevirtual 82, 3) := by decide +kernel
theorem dH_wet_22 : decode (xb yyH_wet) 22 = .ok (.ireturn, 1) := by decide +kernel
theorem dH_wet_23 : decode (xb yyH_wet) 23 = .ok (.aload_n 0, 1) := by decide +kernel
theorem dH_wet_24 : decode (xb yyH_wet) 24 = .ok (.getfield 10, 3) := by decide +kernel
theorem dH_wet_27 : decode (xb yyH_wet) 27 = .ok (.getfield 85, 3) := by decide +kernel
theorem dH_wet_30 : decode (xb yyH_wet) 30 = .ok (.iload_n 1, 1) := by decide +kernel
theorem dH_wet_31 : decode (xb yyH_wet) 31 = .ok (.iconst 0, 1) := by decide +kernel
theorem dH_wet_32 : decode (xb yyH_wet) 32 = .ok (.invokevirtual 88, 3) := by decide +kernel
theorem dH_wet_35 : decode (xb yyH_wet) 35 = .ok (.istore_n 3, 1) := by decide +kernel
theorem dH_wet_36 : decode (xb yyH_wet) 36 = .ok (.aload_n 0, 1) := by decide +kernel
theorem dH_wet_37 : decode (xb yyH_wet) 37 = .ok (.getfield 10, 3) := by decide +kernel
theorem dH_wet_40 : decode (xb yyH_wet) 40 = .ok (.getfield 85, 3) := by decide +kernel
theorem dH_wet_43 : decode (xb yyH_wet) 43 = .ok (.iload_n 1, 1) := by decide +kernel
theorem dH_wet_44 : decode (xb yyH_wet) 44 = .ok (.iconst 0, 1) := by decide +kernel
theorem dH_wet_45 : decode (xb yyH_wet) 45 = .ok (.iload_n 2, 1) := by decide +kernel
theorem dH_wet_46 : decode (xb yyH_wet) 46 = .ok (.invokevirtual 91, 3) := by decide +kernel
theorem dH_wet_49 : decode (xb yyH_wet) 49 = .ok (.aload_n 0, 1) := by decide +kernel
theorem dH_wet_50 : decode (xb yyH_wet) 50 = .ok (.getfield 10, 3) := by decide +kernel
theorem dH_wet_53 : decode (xb yyH_wet) 53 = .ok (.getfield 95, 3) := by decide +kernel
theorem dH_wet_56 : decode (xb yyH_wet) 56 = .ok (.invokevirtual 98, 3) := by decide +kernel
theorem dH_wet_59 : decode (xb yyH_wet) 59 = .ok (.iload_n 3, 1) := by decide +kernel
theorem dH_wet_60 : decode (xb yyH_wet) 60 = .ok (.ireturn, 1) := by decide +kernel
def fH_wet  (v1 : Int32) (v2 : Int32) (m : xM) : Option (Int32 × xM) := (fH_within v1 (0 : Int32) (4 : Int32)).bind fun r3 => (if r3 = 0 then (fH_bad m).bind fun r19 => some (r19.1, r19.2) else (fH_within v2 (0 : Int32) (4 : Int32)).bind fun r12 => (if r12 = 0 then (fH_bad m).bind fun r19 => some (r19.1, r19.2) else (fT_get 2 m v1 (0 : Int32)).bind fun r32 => (fT_put 2 v1 (0 : Int32) v2 m).bind fun r46 => (fT_empty 1 r46).bind fun r56 => some (r32, r56)))
set_option maxRecDepth 100000 in
set_option maxHeartbeats 4000000 in
theorem kH_wet (G : xG)   (z : xM) (m : xM) (v1 : Int32) (v2 : Int32) : ∀ a, fH_wet  v1 v2 m = some a → xCt G yyH_wet [.ref (xa G 81), .int v1, .int v2] (m, z) (some (.int a.1)) (a.2, z) := by
  refine xR_ct (em := (emic z)) rfl (Nat.le_of_ble_eq_true rfl) ?_
  show xR G yyH_wet _ 0 [(0, .ref (xa G 81)), (1, .int v1), (2, .int v2)] [] _ _
  unfold fH_wet
  refine xR_iln 0 1 dH_wet_0 rfl rfl ?_
  refine xR_ic 1 (0 : Int32) dH_wet_1 (by decide) ?_
  refine xR_ic 2 (4 : Int32) dH_wet_2 (by decide) ?_
  refine xR_callSi 3 cs_H_within ml_RX8_78 ⟨Nat.le_of_ble_eq_true rfl, Nat.le_of_ble_eq_true rfl⟩ [.int v1, .int (0 : Int32), .int (4 : Int32)] rfl rfl (Nat.le_of_ble_eq_true rfl) dH_wet_3 (kH_within G (m, z) v1 (0 : Int32) (4 : Int32)) (fun r3 => ?_)
  refine xR_ifeq 6 18 dH_wet_6 (by decide) ?_ ?_
  · refine xR_aln 18 0 dH_wet_18 rfl rfl ?_
    refine xR_callVic 19 cv_H_bad ml_RX8_82 ⟨Nat.le_of_ble_eq_true rfl, Nat.le_of_ble_eq_true rfl⟩ xcf6 rfl 81 (by decide) rfl [] rfl rfl (Nat.le_of_ble_eq_true rfl) dH_wet_19 (kH_bad G z m) (fun r19 => ?_)
    exact xR_iret 22 rfl rfl dH_wet_22
  · refine xR_iln 9 2 dH_wet_9 rfl rfl ?_
    refine xR_ic 10 (0 : Int32) dH_wet_10 (by decide) ?_
    refine xR_ic 11 (4 : Int32) dH_wet_11 (by decide) ?_
    refine xR_callSi 12 cs_H_within ml_RX8_78 ⟨Nat.le_of_ble_eq_true rfl, Nat.le_of_ble_eq_true rfl⟩ [.int v2, .int (0 : Int32), .int (4 : Int32)] rfl rfl (Nat.le_of_ble_eq_true rfl) dH_wet_12 (kH_within G (m, z) v2 (0 : Int32) (4 : Int32)) (fun r12 => ?_)
    refine xR_ifne 15 23 dH_wet_15 (by decide) ?_ ?_
    · refine xR_aln 23 0 dH_wet_23 rfl rfl ?_
      refine xR_getf 24 xcf6 0 81 (by decide) (by decide) rfl (v := .ref (xa G 77)) rfl fl_RX8_10 dH_wet_24 ?_
      refine xR_getf 27 xcf5 2 77 (by decide) (by decide) (xC_twn (t := 0) (by decide)) (v := .ref (xa G 38)) rfl fl_RX8_85 dH_wet_27 ?_
      refine xR_iln 30 1 dH_wet_30 rfl rfl ?_
      refine xR_ic 31 (0 : Int32) dH_wet_31 (by decide) ?_
      refine xR_callVi 32 cv_T_get ml_RX8_88 ⟨Nat.le_of_ble_eq_true rfl, Nat.le_of_ble_eq_true rfl⟩ xcf3 rfl 38 (by decide) (xC_tab (t := 2) (by decide)) [.int v1, .int (0 : Int32)] rfl rfl (Nat.le_of_ble_eq_true rfl) dH_wet_32 (kT_get G 2 (by decide) z m v1 (0 : Int32)) (fun r32 => ?_)
      refine xR_isn 35 ([(3, .int r32), (0, .ref (xa G 81)), (1, .int v1), (2, .int v2)]) dH_wet_35 rfl (by decide) rfl ?_
      refine xR_aln 36 1 dH_wet_36 rfl rfl ?_
      refine xR_getf 37 xcf6 0 81 (by decide) (by decide) rfl (v := .ref (xa G 77)) rfl fl_RX8_10 dH_wet_37 ?_
      refine xR_getf 40 xcf5 2 77 (by decide) (by decide) (xC_twn (t := 0) (by decide)) (v := .ref (xa G 38)) rfl fl_RX8_85 dH_wet_40 ?_
      refine xR_iln 43 2 dH_wet_43 rfl rfl ?_
      refine xR_ic 44 (0 : Int32) dH_wet_44 (by decide) ?_
      refine xR_iln 45 3 dH_wet_45 rfl rfl ?_
      refine xR_callVvc 46 cv_T_put ml_RX8_91 ⟨Nat.le_of_ble_eq_true rfl, Nat.le_of_ble_eq_true rfl⟩ xcf3 rfl 38 (by decide) (xC_tab (t := 2) (by decide)) [.int v1, .int (0 : Int32), .int v2] rfl rfl (Nat.le_of_ble_eq_true rfl) dH_wet_46 (kT_put G 2 (by decide) z m v1 (0 : Int32) v2) (fun r46 => ?_)
      refine xR_aln 49 1 dH_wet_49 rfl rfl ?_
      refine xR_getf 50 xcf6 0 81 (by decide) (by decide) rfl (v := .ref (xa G 77)) rfl fl_RX8_10 dH_wet_50 ?_
      refine xR_getf 53 xcf5 1 77 (by decide) (by decide) (xC_twn (t := 0) (by decide)) (v := .ref (xa G 37)) rfl fl_RX8_95 dH_wet_53 ?_
      refine xR_callVvc 56 cv_T_empty ml_RX8_98 ⟨Nat.le_of_ble_eq_true rfl, Nat.le_of_ble_eq_true rfl⟩ xcf3 rfl 37 (by decide) (xC_tab (t := 1) (by decide)) [] rfl rfl (Nat.le_of_ble_eq_true rfl) dH_wet_56 (kT_empty G 1 (by decide) z r46) (fun r56 => ?_)
      refine xR_iln 59 0 dH_wet_59 rfl rfl ?_
      exact xR_iret 60 rfl rfl dH_wet_60
    · refine xR_aln 18 0 dH_wet_18 rfl rfl ?_
      refine xR_callVic 19 cv_H_bad ml_RX8_82 ⟨Nat.le_of_ble_eq_true rfl, Nat.le_of_ble_eq_true rfl⟩ xcf6 rfl 81 (by decide) rfl [] rfl rfl (Nat.le_of_ble_eq_true rfl) dH_wet_19 (kH_bad G z m) (fun r19 => ?_)
      exact xR_iret 22 rfl rfl dH_wet_22
theorem dH_full_0 : decode (xb yyH_full) 0 = .ok (.aload_n 0, 1) := by decide +kernel
theorem dH_full_1 : decode (xb yyH_full) 1 = .ok (.dup, 1) := by decide +kernel
theorem dH_full_2 : decode (xb yyH_full) 2 = .ok (.getfield 311, 3) := by decide +kernel
theorem dH_full_5 : decode (xb yyH_full) 5 = .ok (.iconst 1, 1) := by decide +kernel
theorem dH_full_6 : decode (xb yyH_full) 6 = .ok (.iadd, 1) := by decide +kernel
theorem dH_full_7 : decode (xb yyH_full) 7 = .ok (.putfield 311, 3) := by decide +kernel
theorem dH_full_10 : decode (xb yyH_full) 10 = .ok (.bipush (-4), 2) := by decide +kernel
theorem dH_full_12 : decode (xb yyH_full) 12 = .ok (.ireturn, 1) := by decide +kernel
def fH_full  (m : xM) : Option (Int32 × xM) := some ((-4 : Int32), (xset m 38 4 ((m.1 38 4) + (1 : Int32))))
set_option maxRecDepth 100000 in
set_option maxHeartbeats 4000000 in
theorem kH_full (G : xG)   (z : xM) (m : xM) : ∀ a, fH_full  m = some a → xCt G yyH_full [.ref (xa G 81)] (m, z) (some (.int a.1)) (a.2, z) := by
  refine xR_ct (em := (emic z)) rfl (Nat.le_of_ble_eq_true rfl) ?_
  show xR G yyH_full _ 0 [(0, .ref (xa G 81))] [] _ _
  unfold fH_full
  refine xR_aln 0 0 dH_full_0 rfl rfl ?_
  refine xR_dup 1 dH_full_1 rfl ?_
  refine xR_getf 2 xcf6 15 81 (by decide) (by decide) rfl (v := .int (m.1 38 4)) rfl fl_RX8_311 dH_full_2 ?_
  refine xR_ic 5 (1 : Int32) dH_full_5 (by decide) ?_
  refine xR_iadd 6 dH_full_6 ?_
  refine xR_putf 7 xcf6 15 81 (by decide) (by decide) rfl rfl rfl rfl (Nat.le_of_ble_eq_true rfl) ((xset m 38 4 ((m.1 38 4) + (1 : Int32))), z) (xW_blk (a := 38) (i := 4) (by decide) (by decide) rfl) fl_RX8_311 dH_full_7 ?_
  refine xR_bp 10 (-4 : Int32) dH_full_10 (by decide) ?_
  exact xR_iret 12 rfl rfl dH_full_12
theorem dH_board_0 : decode (xb yyH_board) 0 = .ok (.iload_n 1, 1) := by decide +kernel
theorem dH_board_1 : decode (xb yyH_board) 1 = .ok (.invokestatic 99, 3) := by decide +kernel
theorem dH_board_4 : decode (xb yyH_board) 4 = .ok (.ifCond .eq 33, 3) := by decide +kernel
theorem dH_board_7 : decode (xb yyH_board) 7 = .ok (.iload_n 2, 1) := by decide +kernel
theorem dH_board_8 : decode (xb yyH_board) 8 = .ok (.iconst 0, 1) := by decide +kernel
theorem dH_board_9 : decode (xb yyH_board) 9 = .ok (.bipush 99, 2) := by decide +kernel
theorem dH_board_11 : decode (xb yyH_board) 11 = .ok (.invokestatic 78, 3) := by decide +kernel
theorem dH_board_14 : decode (xb yyH_board) 14 = .ok (.ifCond .eq 23, 3) := by decide +kernel
theorem dH_board_17 : decode (xb yyH_board) 17 = .ok (.iload_n 3, 1) := by decide +kernel
theorem dH_board_18 : decode (xb yyH_board) 18 = .ok (.iconst 0, 1) := by decide +kernel
theorem dH_board_19 : decode (xb yyH_board) 19 = .ok (.bipush 9, 2) := by decide +kernel
theorem dH_board_21 : decode (xb yyH_board) 21 = .ok (.invokestatic 78, 3) := by decide +kernel
theorem dH_board_24 : decode (xb yyH_board) 24 = .ok (.ifCond .eq 13, 3) := by decide +kernel
theorem dH_board_27 : decode (xb yyH_board) 27 = .ok (.iload 4, 2) := by decide +kernel
theorem dH_board_29 : decode (xb yyH_board) 29 = .ok (.iconst 0, 1) := by decide +kernel
theorem dH_board_30 : decode (xb yyH_board) 30 = .ok (.iconst 3, 1) := by decide +kernel
theorem dH_board_31 : decode (xb yyH_board) 31 = .ok (.invokestatic 78, 3) := by decide +kernel
theorem dH_board_34 : decode (xb yyH_board) 34 = .ok (.ifCond .ne 8, 3) := by decide +kernel
theorem dH_board_37 : decode (xb yyH_board) 37 = .ok (.aload_n 0, 1) := by decide +kernel
theorem dH_board_38 : decode (xb yyH_board) 38 = .ok (.invokevirtual 82, 3) := by decide +kernel
theorem dH_board_41 : decode (xb yyH_board) 41 = .ok (.ireturn, 1) := by decide +kernel
theorem dH_board_42 : decode (xb yyH_board) 42 = .ok (.aload_n 0, 1) := by decide +kernel
theorem dH_board_43 : decode (xb yyH_board) 43 = .ok (.getfield 10, 3) := by decide +kernel
theorem dH_board_46 : decode (xb yyH_board) 46 = .ok (.getfield 68, 3) := by decide +kernel
theorem dH_board_49 : decode (xb yyH_board) 49 = .ok (.invokevirtual 71, 3) := by decide +kernel
theorem dH_board_52 : decode (xb yyH_board) 52 = .ok (.bipush 6, 2) := by decide +kernel
theorem dH_board_54 : decode (xb yyH_board) 54 = .ok (.if_icmp .lt 8, 3) := by decide +kernel
theorem dH_board_57 : decode (xb yyH_board) 57 = .ok (.aload_n 0, 1) := by decide +kernel
theorem dH_board_58 : decode (xb yyH_board) 58 = .ok (.invokevirtual 103, 3) := by decide +kernel
theorem dH_board_61 : decode (xb yyH_board) 61 = .ok (.ireturn, 1) := by decide +kernel
theorem dH_board_62 : decode (xb yyH_board) 62 = .ok (.aload_n 0, 1) := by decide +kernel
theorem dH_board_63 : decode (xb yyH_board) 63 = .ok (.getfield 10, 3) := by decide +kernel
theorem dH_board_66 : decode (xb yyH_board) 66 = .ok (.getfield 95, 3) := by decide +kernel
theorem dH_board_69 : decode (xb yyH_board) 69 = .ok (.invokevirtual 98, 3) := by decide +kernel
theorem dH_board_72 : decode (xb yyH_board) 72 = .ok (.aload_n 0, 1) := by decide +kernel
theorem dH_board_73 : decode (xb yyH_board) 73 = .ok (.getfield 10, 3) := by decide +kernel
theorem dH_board_76 : decode (xb yyH_board) 76 = .ok (.getfield 68, 3) := by decide +kernel
theorem dH_board_79 : decode (xb yyH_board) 79 = .ok (.iload_n 1, 1) := by decide +kernel
theorem dH_board_80 : decode (xb yyH_board) 80 = .ok (.iload_n 2, 1) := by decide +kernel
theorem dH_board_81 : decode (xb yyH_board) 81 = .ok (.iload_n 3, 1) := by decide +kernel
theorem dH_board_82 : decode (xb yyH_board) 82 = .ok (.iload 4, 2) := by decide +kernel
theorem dH_board_84 : decode (xb yyH_board) 84 = .ok (.invokevirtual 106, 3) := by decide +kernel
theorem dH_board_87 : decode (xb yyH_board) 87 = .ok (.ireturn, 1) := by decide +kernel
def fH_board  (v1 : Int32) (v2 : Int32) (v3 : Int32) (v4 : Int32) (m : xM) : Option (Int32 × xM) := (fH_isKind v1).bind fun r1 => (if r1 = 0 then (fH_bad m).bind fun r38 => some (r38.1, r38.2) else (fH_within v2 (0 : Int32) (99 : Int32)).bind fun r11 => (if r11 = 0 then (fH_bad m).bind fun r38 => some (r38.1, r38.2) else (fH_within v3 (0 : Int32) (9 : Int32)).bind fun r21 => (if r21 = 0 then (fH_bad m).bind fun r38 => some (r38.1, r38.2) else (fH_within v4 (0 : Int32) (3 : Int32)).bind fun r31 => (if r31 = 0 then (fH_bad m).bind fun r38 => some (r38.1, r38.2) else (fB_many 0 m).bind fun r49 => (if r49 < (6 : Int32) then (fT_empty 1 m).bind fun r69 => (fB_bring 0 v1 v2 v3 v4 r69).bind fun r84 => some (r84.1, r84.2) else (fH_full m).bind fun r58 => some (r58.1, r58.2))))))
set_option maxRecDepth 100000 in
set_option maxHeartbeats 4000000 in
theorem kH_board (G : xG)   (z : xM) (m : xM) (v1 : Int32) (v2 : Int32) (v3 : Int32) (v4 : Int32) : ∀ a, fH_board  v1 v2 v3 v4 m = some a → xCt G yyH_board [.ref (xa G 81), .int v1, .int v2, .int v3, .int v4] (m, z) (some (.int a.1)) (a.2, z) := by
  refine xR_ct (em := (emic z)) rfl (Nat.le_of_ble_eq_true rfl) ?_
  show xR G yyH_board _ 0 [(0, .ref (xa G 81)), (1, .int v1), (2, .int v2), (3, .int v3), (4, .int v4)] [] _ _
  unfold fH_board
  refine xR_iln 0 1 dH_board_0 rfl rfl ?_
  refine xR_callSi 1 cs_H_isKind ml_RX8_99 ⟨Nat.le_of_ble_eq_true rfl, Nat.le_of_ble_eq_true rfl⟩ [.int v1] rfl rfl (Nat.le_of_ble_eq_true rfl) dH_board_1 (kH_isKind G (m, z) v1) (fun r1 => ?_)
  refine xR_ifeq 4 37 dH_board_4 (by decide) ?_ ?_
  · refine xR_aln 37 0 dH_board_37 rfl rfl ?_
    refine xR_callVic 38 cv_H_bad ml_RX8_82 ⟨Nat.le_of_ble_eq_true rfl, Nat.le_of_ble_eq_true rfl⟩ xcf6 rfl 81 (by decide) rfl [] rfl rfl (Nat.le_of_ble_eq_true rfl) dH_board_38 (kH_bad G z m) (fun r38 => ?_)
    exact xR_iret 41 rfl rfl dH_board_41
  · refine xR_iln 7 2 dH_board_7 rfl rfl ?_
    refine xR_ic 8 (0 : Int32) dH_board_8 (by decide) ?_
    refine xR_bp 9 (99 : Int32) dH_board_9 (by decide) ?_
    refine xR_callSi 11 cs_H_within ml_RX8_78 ⟨Nat.le_of_ble_eq_true rfl, Nat.le_of_ble_eq_true rfl⟩ [.int v2, .int (0 : Int32), .int (99 : Int32)] rfl rfl (Nat.le_of_ble_eq_true rfl) dH_board_11 (kH_within G (m, z) v2 (0 : Int32) (99 : Int32)) (fun r11 => ?_)
    refine xR_ifeq 14 37 dH_board_14 (by decide) ?_ ?_
    · refine xR_aln 37 0 dH_board_37 rfl rfl ?_
      refine xR_callVic 38 cv_H_bad ml_RX8_82 ⟨Nat.le_of_ble_eq_true rfl, Nat.le_of_ble_eq_true rfl⟩ xcf6 rfl 81 (by decide) rfl [] rfl rfl (Nat.le_of_ble_eq_true rfl) dH_board_38 (kH_bad G z m) (fun r38 => ?_)
      exact xR_iret 41 rfl rfl dH_board_41
    · refine xR_iln 17 3 dH_board_17 rfl rfl ?_
      refine xR_ic 18 (0 : Int32) dH_board_18 (by decide) ?_
      refine xR_bp 19 (9 : Int32) dH_board_19 (by decide) ?_
      refine xR_callSi 21 cs_H_within ml_RX8_78 ⟨Nat.le_of_ble_eq_true rfl, Nat.le_of_ble_eq_true rfl⟩ [.int v3, .int (0 : Int32), .int (9 : Int32)] rfl rfl (Nat.le_of_ble_eq_true rfl) dH_board_21 (kH_within G (m, z) v3 (0 : Int32) (9 : Int32)) (fun r21 => ?_)
      refine xR_ifeq 24 37 dH_board_24 (by decide) ?_ ?_
      · refine xR_aln 37 0 dH_board_37 rfl rfl ?_
        refine xR_callVic 38 cv_H_bad ml_RX8_82 ⟨Nat.le_of_ble_eq_true rfl, Nat.le_of_ble_eq_true rfl⟩ xcf6 rfl 81 (by decide) rfl [] rfl rfl (Nat.le_of_ble_eq_true rfl) dH_board_38 (kH_bad G z m) (fun r38 => ?_)
        exact xR_iret 41 rfl rfl dH_board_41
      · refine xR_il 27 4 dH_board_27 rfl ?_
        refine xR_ic 29 (0 : Int32) dH_board_29 (by decide) ?_
        refine xR_ic 30 (3 : Int32) dH_board_30 (by decide) ?_
        refine xR_callSi 31 cs_H_within ml_RX8_78 ⟨Nat.le_of_ble_eq_true rfl, Nat.le_of_ble_eq_true rfl⟩ [.int v4, .int (0 : Int32), .int (3 : Int32)] rfl rfl (Nat.le_of_ble_eq_true rfl) dH_board_31 (kH_within G (m, z) v4 (0 : Int32) (3 : Int32)) (fun r31 => ?_)
        refine xR_ifne 34 42 dH_board_34 (by decide) ?_ ?_
        · refine xR_aln 42 0 dH_board_42 rfl rfl ?_
          refine xR_getf 43 xcf6 0 81 (by decide) (by decide) rfl (v := .ref (xa G 77)) rfl fl_RX8_10 dH_board_43 ?_
          refine xR_getf 46 xcf5 0 77 (by decide) (by decide) (xC_twn (t := 0) (by decide)) (v := .ref (xa G 72)) rfl fl_RX8_68 dH_board_46 ?_
          refine xR_callVi 49 cv_B_many ml_RX8_71 ⟨Nat.le_of_ble_eq_true rfl, Nat.le_of_ble_eq_true rfl⟩ xcf0 rfl 72 (by decide) (xC_brd (b := 0) (by decide)) [] rfl rfl (Nat.le_of_ble_eq_true rfl) dH_board_49 (kB_many G 0 (by decide) z m) (fun r49 => ?_)
          refine xR_bp 52 (6 : Int32) dH_board_52 (by decide) ?_
          refine xR_iclt 54 62 dH_board_54 (by decide) ?_ ?_
          · refine xR_aln 62 0 dH_board_62 rfl rfl ?_
            refine xR_getf 63 xcf6 0 81 (by decide) (by decide) rfl (v := .ref (xa G 77)) rfl fl_RX8_10 dH_board_63 ?_
            refine xR_getf 66 xcf5 1 77 (by decide) (by decide) (xC_twn (t := 0) (by decide)) (v := .ref (xa G 37)) rfl fl_RX8_95 dH_board_66 ?_
            refine xR_callVvc 69 cv_T_empty ml_RX8_98 ⟨Nat.le_of_ble_eq_true rfl, Nat.le_of_ble_eq_true rfl⟩ xcf3 rfl 37 (by decide) (xC_tab (t := 1) (by decide)) [] rfl rfl (Nat.le_of_ble_eq_true rfl) dH_board_69 (kT_empty G 1 (by decide) z m) (fun r69 => ?_)
            refine xR_aln 72 0 dH_board_72 rfl rfl ?_
            refine xR_getf 73 xcf6 0 81 (by decide) (by decide) rfl (v := .ref (xa G 77)) rfl fl_RX8_10 dH_board_73 ?_
            refine xR_getf 76 xcf5 0 77 (by decide) (by decide) (xC_twn (t := 0) (by decide)) (v := .ref (xa G 72)) rfl fl_RX8_68 dH_board_76 ?_
            refine xR_iln 79 1 dH_board_79 rfl rfl ?_
            refine xR_iln 80 2 dH_board_80 rfl rfl ?_
            refine xR_iln 81 3 dH_board_81 rfl rfl ?_
            refine xR_il 82 4 dH_board_82 rfl ?_
            refine xR_callVic 84 cv_B_bring ml_RX8_106 ⟨Nat.le_of_ble_eq_true rfl, Nat.le_of_ble_eq_true rfl⟩ xcf0 rfl 72 (by decide) (xC_brd (b := 0) (by decide)) [.int v1, .int v2, .int v3, .int v4] rfl rfl (Nat.le_of_ble_eq_true rfl) dH_board_84 (kB_bring G 0 (by decide) z r69 v1 v2 v3 v4) (fun r84 => ?_)
            exact xR_iret 87 rfl rfl dH_board_87
          · refine xR_aln 57 0 dH_board_57 rfl rfl ?_
            refine xR_callVic 58 cv_H_full ml_RX8_103 ⟨Nat.le_of_ble_eq_true rfl, Nat.le_of_ble_eq_true rfl⟩ xcf6 rfl 81 (by decide) rfl [] rfl rfl (Nat.le_of_ble_eq_true rfl) dH_board_58 (kH_full G z m) (fun r58 => ?_)
            exact xR_iret 61 rfl rfl dH_board_61
        · refine xR_aln 37 0 dH_board_37 rfl rfl ?_
          refine xR_callVic 38 cv_H_bad ml_RX8_82 ⟨Nat.le_of_ble_eq_true rfl, Nat.le_of_ble_eq_true rfl⟩ xcf6 rfl 81 (by decide) rfl [] rfl rfl (Nat.le_of_ble_eq_true rfl) dH_board_38 (kH_bad G z m) (fun r38 => ?_)
          exact xR_iret 41 rfl rfl dH_board_41
theorem dH_make_0 : decode (xb yyH_make) 0 = .ok (.iload_n 1, 1) := by decide +kernel
theorem dH_make_1 : decode (xb yyH_make) 1 = .ok (.invokestatic 99, 3) := by decide +kernel
theorem dH_make_4 : decode (xb yyH_make) 4 = .ok (.ifCond .ne 8, 3) := by decide +kernel
theorem dH_make_7 : decode (xb yyH_make) 7 = .ok (.aload_n 0, 1) := by decide +kernel
theorem dH_make_8 : decode (xb yyH_make) 8 = .ok (.invokevirtual 82, 3) := by decide +kernel
theorem dH_make_11 : decode (xb yyH_make) 11 = .ok (.ireturn, 1) := by decide +kernel
theorem dH_make_12 : decode (xb yyH_make) 12 = .ok (.aload_n 0, 1) := by decide +kernel
theorem dH_make_13 : decode (xb yyH_make) 13 = .ok (.getfield 10, 3) := by decide +kernel
theorem dH_make_16 : decode (xb yyH_make) 16 = .ok (.getfield 110, 3) := by decide +kernel
theorem dH_make_19 : decode (xb yyH_make) 19 = .ok (.invokevirtual 113, 3) := by decide +kernel
theorem dH_make_22 : decode (xb yyH_make) 22 = .ok (.iconst 4, 1) := by decide +kernel
theorem dH_make_23 : decode (xb yyH_make) 23 = .ok (.if_icmp .lt 8, 3) := by decide +kernel
theorem dH_make_26 : decode (xb yyH_make) 26 = .ok (.aload_n 0, 1) := by decide +kernel
theorem dH_make_27 : decode (xb yyH_make) 27 = .ok (.invokevirtual 103, 3) := by decide +kernel
theorem dH_make_30 : decode (xb yyH_make) 30 = .ok (.ireturn, 1) := by decide +kernel
theorem dH_make_31 : decode (xb yyH_make) 31 = .ok (.aload_n 0, 1) := by decide +kernel
theorem dH_make_32 : decode (xb yyH_make) 32 = .ok (.getfield 10, 3) := by decide +kernel
theorem dH_make_35 : decode (xb yyH_make) 35 = .ok (.getfield 95, 3) := by decide +kernel
theorem dH_make_38 : decode (xb yyH_make) 38 = .ok (.invokevirtual 98, 3) := by decide +kernel
theorem dH_make_41 : decode (xb yyH_make) 41 = .ok (.aload_n 0, 1) := by decide +kernel
theorem dH_make_42 : decode (xb yyH_make) 42 = .ok (.getfield 10, 3) := by decide +kernel
theorem dH_make_45 : decode (xb yyH_make) 45 = .ok (.iload_n 1, 1) := by decide +kernel
theorem dH_make_46 : decode (xb yyH_make) 46 = .ok (.invokevirtual 114, 3) := by decide +kernel
theorem dH_make_49 : decode (xb yyH_make) 49 = .ok (.ireturn, 1) := by decide +kernel
def fH_make  (v1 : Int32) (m : xM) : Option (Int32 × xM) := (fH_isKind v1).bind fun r1 => (if r1 = 0 then (fH_bad m).bind fun r8 => some (r8.1, r8.2) else (fT_many 3 m).bind fun r19 => (if r19 < (4 : Int32) then (fT_empty 1 m).bind fun r38 => (fW_bringInstrument 0 v1 r38).bind fun r46 => some (r46.1, r46.2) else (fH_full m).bind fun r27 => some (r27.1, r27.2)))
set_option maxRecDepth 100000 in
set_option maxHeartbeats 4000000 in
theorem kH_make (G : xG)   (z : xM) (m : xM) (v1 : Int32) : ∀ a, fH_make  v1 m = some a → xCt G yyH_make [.ref (xa G 81), .int v1] (m, z) (some (.int a.1)) (a.2, z) := by
  refine xR_ct (em := (emic z)) rfl (Nat.le_of_ble_eq_true rfl) ?_
  show xR G yyH_make _ 0 [(0, .ref (xa G 81)), (1, .int v1)] [] _ _
  unfold fH_make
  refine xR_iln 0 1 dH_make_0 rfl rfl ?_
  refine xR_callSi 1 cs_H_isKind ml_RX8_99 ⟨Nat.le_of_ble_eq_true rfl, Nat.le_of_ble_eq_true rfl⟩ [.int v1] rfl rfl (Nat.le_of_ble_eq_true rfl) dH_make_1 (kH_isKind G (m, z) v1) (fun r1 => ?_)
  refine xR_ifne 4 12 dH_make_4 (by decide) ?_ ?_
  · refine xR_aln 12 0 dH_make_12 rfl rfl ?_
    refine xR_getf 13 xcf6 0 81 (by decide) (by decide) rfl (v := .ref (xa G 77)) rfl fl_RX8_10 dH_make_13 ?_
    refine xR_getf 16 xcf5 3 77 (by decide) (by decide) (xC_twn (t := 0) (by decide)) (v := .ref (xa G 39)) rfl fl_RX8_110 dH_make_16 ?_
    refine xR_callVi 19 cv_T_many ml_RX8_113 ⟨Nat.le_of_ble_eq_true rfl, Nat.le_of_ble_eq_true rfl⟩ xcf3 rfl 39 (by decide) (xC_tab (t := 3) (by decide)) [] rfl rfl (Nat.le_of_ble_eq_true rfl) dH_make_19 (kT_many G 3 (by decide) z m) (fun r19 => ?_)
    refine xR_ic 22 (4 : Int32) dH_make_22 (by decide) ?_
    refine xR_iclt 23 31 dH_make_23 (by decide) ?_ ?_
    · refine xR_aln 31 0 dH_make_31 rfl rfl ?_
      refine xR_getf 32 xcf6 0 81 (by decide) (by decide) rfl (v := .ref (xa G 77)) rfl fl_RX8_10 dH_make_32 ?_
      refine xR_getf 35 xcf5 1 77 (by decide) (by decide) (xC_twn (t := 0) (by decide)) (v := .ref (xa G 37)) rfl fl_RX8_95 dH_make_35 ?_
      refine xR_callVvc 38 cv_T_empty ml_RX8_98 ⟨Nat.le_of_ble_eq_true rfl, Nat.le_of_ble_eq_true rfl⟩ xcf3 rfl 37 (by decide) (xC_tab (t := 1) (by decide)) [] rfl rfl (Nat.le_of_ble_eq_true rfl) dH_make_38 (kT_empty G 1 (by decide) z m) (fun r38 => ?_)
      refine xR_aln 41 0 dH_make_41 rfl rfl ?_
      refine xR_getf 42 xcf6 0 81 (by decide) (by decide) rfl (v := .ref (xa G 77)) rfl fl_RX8_10 dH_make_42 ?_
      refine xR_iln 45 1 dH_make_45 rfl rfl ?_
      refine xR_callVic 46 cv_W_bringInstrument ml_RX8_114 ⟨Nat.le_of_ble_eq_true rfl, Nat.le_of_ble_eq_true rfl⟩ xcf5 rfl 77 (by decide) (xC_twn (t := 0) (by decide)) [.int v1] rfl rfl (Nat.le_of_ble_eq_true rfl) dH_make_46 (kW_bringInstrument G 0 (by decide) z r38 v1) (fun r46 => ?_)
      exact xR_iret 49 rfl rfl dH_make_49
    · refine xR_aln 26 0 dH_make_26 rfl rfl ?_
      refine xR_callVic 27 cv_H_full ml_RX8_103 ⟨Nat.le_of_ble_eq_true rfl, Nat.le_of_ble_eq_true rfl⟩ xcf6 rfl 81 (by decide) rfl [] rfl rfl (Nat.le_of_ble_eq_true rfl) dH_make_27 (kH_full G z m) (fun r27 => ?_)
      exact xR_iret 30 rfl rfl dH_make_30
  · refine xR_aln 7 0 dH_make_7 rfl rfl ?_
    refine xR_callVic 8 cv_H_bad ml_RX8_82 ⟨Nat.le_of_ble_eq_true rfl, Nat.le_of_ble_eq_true rfl⟩ xcf6 rfl 81 (by decide) rfl [] rfl rfl (Nat.le_of_ble_eq_true rfl) dH_make_8 (kH_bad G z m) (fun r8 => ?_)
    exact xR_iret 11 rfl rfl dH_make_11
theorem dH_worm_0 : decode (xb yyH_worm) 0 = .ok (.aload_n 0, 1) := by decide +kernel
theorem dH_worm_1 : decode (xb yyH_worm) 1 = .ok (.getfield 10, 3) := by decide +kernel
theorem dH_worm_4 : decode (xb yyH_worm) 4 = .ok (.getfield 68, 3) := by decide +kernel
theorem dH_worm_7 : decode (xb yyH_worm) 7 = .ok (.iload_n 1, 1) := by decide +kernel
theorem dH_worm_8 : decode (xb yyH_worm) 8 = .ok (.invokevirtual 118, 3) := by decide +kernel
theorem dH_worm_11 : decode (xb yyH_worm) 11 = .ok (.ifCond .eq 12, 3) := by decide +kernel
theorem dH_worm_14 : decode (xb yyH_worm) 14 = .ok (.iload_n 2, 1) := by decide +kernel
theorem dH_worm_15 : decode (xb yyH_worm) 15 = .ok (.iconst 0, 1) := by decide +kernel
theorem dH_worm_16 : decode (xb yyH_worm) 16 = .ok (.iconst 1, 1) := by decide +kernel
theorem dH_worm_17 : decode (xb yyH_worm) 17 = .ok (.invokestatic 78, 3) := by decide +kernel
theorem dH_worm_20 : decode (xb yyH_worm) 20 = .ok (.ifCond .ne 8, 3) := by decide +kernel
theorem dH_worm_23 : decode (xb yyH_worm) 23 = .ok (.aload_n 0, 1) := by decide +kernel
theorem dH_worm_24 : decode (xb yyH_worm) 24 = .ok (.invokevirtual 82, 3) := by decide +kernel
theorem dH_worm_27 : decode (xb yyH_worm) 27 = .ok (.ireturn, 1) := by decide +kernel
theorem dH_worm_28 : decode (xb yyH_worm) 28 = .ok (.aload_n 0, 1) := by decide +kernel
theorem dH_worm_29 : decode (xb yyH_worm) 29 = .ok (.getfield 10, 3) := by decide +kernel
theorem dH_worm_32 : decode (xb yyH_worm) 32 = .ok (.getfield 68, 3) := by decide +kernel
theorem dH_worm_35 : decode (xb yyH_worm) 35 = .ok (.iload_n 1, 1) := by decide +kernel
theorem dH_worm_36 : decode (xb yyH_worm) 36 = .ok (.iconst 4, 1) := by decide +kernel
theorem dH_worm_37 : decode (xb yyH_worm) 37 = .ok (.invokevirtual 121, 3) := by decide +kernel
theorem dH_worm_40 : decode (xb yyH_worm) 40 = .ok (.istore_n 3, 1) := by decide +kernel
theorem dH_worm_41 : decode (xb yyH_worm) 41 = .ok (.aload_n 0, 1) := by decide +kernel
theorem dH_worm_42 : decode (xb yyH_worm) 42 = .ok (.getfield 10, 3) := by decide +kernel
theorem dH_worm_45 : decode (xb yyH_worm) 45 = .ok (.getfield 68, 3) := by decide +kernel
theorem dH_worm_48 : decode (xb yyH_worm) 48 = .ok (.iload_n 1, 1) := by decide +kernel
theorem dH_worm_49 : decode (xb yyH_worm) 49 = .ok (.iconst 4, 1) := by decide +kernel
theorem dH_worm_50 : decode (xb yyH_worm) 50 = .ok (.iload_n 2, 1) := by decide +kernel
theorem dH_worm_51 : decode (xb yyH_worm) 51 = .ok (.invokevirtual 124, 3) := by decide +kernel
theorem dH_worm_54 : decode (xb yyH_worm) 54 = .ok (.aload_n 0, 1) := by decide +kernel
theorem dH_worm_55 : decode (xb yyH_worm) 55 = .ok (.getfield 10, 3) := by decide +kernel
theorem dH_worm_58 : decode (xb yyH_worm) 58 = .ok (.getfield 95, 3) := by decide +kernel
theorem dH_worm_61 : decode (xb yyH_worm) 61 = .ok (.invokevirtual 98, 3) := by decide +kernel
theorem dH_worm_64 : decode (xb yyH_worm) 64 = .ok (.iload_n 3, 1) := by decide +kernel
theorem dH_worm_65 : decode (xb yyH_worm) 65 = .ok (.ireturn, 1) := by decide +kernel
def fH_worm  (v1 : Int32) (v2 : Int32) (m : xM) : Option (Int32 × xM) := (fB_has 0 m v1).bind fun r8 => (if r8 = 0 then (fH_bad m).bind fun r24 => some (r24.1, r24.2) else (fH_within v2 (0 : Int32) (1 : Int32)).bind fun r17 => (if r17 = 0 then (fH_bad m).bind fun r24 => some (r24.1, r24.2) else (fB_cell 0 m v1 (4 : Int32)).bind fun r37 => (fB_set 0 v1 (4 : Int32) v2 m).bind fun r51 => (fT_empty 1 r51).bind fun r61 => some (r37, r61)))
set_option maxRecDepth 100000 in
set_option maxHeartbeats 4000000 in
theorem kH_worm (G : xG)   (z : xM) (m : xM) (v1 : Int32) (v2 : Int32) : ∀ a, fH_worm  v1 v2 m = some a → xCt G yyH_worm [.ref (xa G 81), .int v1, .int v2] (m, z) (some (.int a.1)) (a.2, z) := by
  refine xR_ct (em := (emic z)) rfl (Nat.le_of_ble_eq_true rfl) ?_
  show xR G yyH_worm _ 0 [(0, .ref (xa G 81)), (1, .int v1), (2, .int v2)] [] _ _
  unfold fH_worm
  refine xR_aln 0 0 dH_worm_0 rfl rfl ?_
  refine xR_getf 1 xcf6 0 81 (by decide) (by decide) rfl (v := .ref (xa G 77)) rfl fl_RX8_10 dH_worm_1 ?_
  refine xR_getf 4 xcf5 0 77 (by decide) (by decide) (xC_twn (t := 0) (by decide)) (v := .ref (xa G 72)) rfl fl_RX8_68 dH_worm_4 ?_
  refine xR_iln 7 1 dH_worm_7 rfl rfl ?_
  refine xR_callVi 8 cv_B_has ml_RX8_118 ⟨Nat.le_of_ble_eq_true rfl, Nat.le_of_ble_eq_true rfl⟩ xcf0 rfl 72 (by decide) (xC_brd (b := 0) (by decide)) [.int v1] rfl rfl (Nat.le_of_ble_eq_true rfl) dH_worm_8 (kB_has G 0 (by decide) z m v1) (fun r8 => ?_)
  refine xR_ifeq 11 23 dH_worm_11 (by decide) ?_ ?_
  · refine xR_aln 23 0 dH_worm_23 rfl rfl ?_
    refine xR_callVic 24 cv_H_bad ml_RX8_82 ⟨Nat.le_of_ble_eq_true rfl, Nat.le_of_ble_eq_true rfl⟩ xcf6 rfl 81 (by decide) rfl [] rfl rfl (Nat.le_of_ble_eq_true rfl) dH_worm_24 (kH_bad G z m) (fun r24 => ?_)
    exact xR_iret 27 rfl rfl dH_worm_27
  · refine xR_iln 14 2 dH_worm_14 rfl rfl ?_
    refine xR_ic 15 (0 : Int32) dH_worm_15 (by decide) ?_
    refine xR_ic 16 (1 : Int32) dH_worm_16 (by decide) ?_
    refine xR_callSi 17 cs_H_within ml_RX8_78 ⟨Nat.le_of_ble_eq_true rfl, Nat.le_of_ble_eq_true rfl⟩ [.int v2, .int (0 : Int32), .int (1 : Int32)] rfl rfl (Nat.le_of_ble_eq_true rfl) dH_worm_17 (kH_within G (m, z) v2 (0 : Int32) (1 : Int32)) (fun r17 => ?_)
    refine xR_ifne 20 28 dH_worm_20 (by decide) ?_ ?_
    · refine xR_aln 28 0 dH_worm_28 rfl rfl ?_
      refine xR_getf 29 xcf6 0 81 (by decide) (by decide) rfl (v := .ref (xa G 77)) rfl fl_RX8_10 dH_worm_29 ?_
      refine xR_getf 32 xcf5 0 77 (by decide) (by decide) (xC_twn (t := 0) (by decide)) (v := .ref (xa G 72)) rfl fl_RX8_68 dH_worm_32 ?_
      refine xR_iln 35 1 dH_worm_35 rfl rfl ?_
      refine xR_ic 36 (4 : Int32) dH_worm_36 (by decide) ?_
      refine xR_callVi 37 cv_B_cell ml_RX8_121 ⟨Nat.le_of_ble_eq_true rfl, Nat.le_of_ble_eq_true rfl⟩ xcf0 rfl 72 (by decide) (xC_brd (b := 0) (by decide)) [.int v1, .int (4 : Int32)] rfl rfl (Nat.le_of_ble_eq_true rfl) dH_worm_37 (kB_cell G 0 (by decide) z m v1 (4 : Int32)) (fun r37 => ?_)
      refine xR_isn 40 ([(3, .int r37), (0, .ref (xa G 81)), (1, .int v1), (2, .int v2)]) dH_worm_40 rfl (by decide) rfl ?_
      refine xR_aln 41 1 dH_worm_41 rfl rfl ?_
      refine xR_getf 42 xcf6 0 81 (by decide) (by decide) rfl (v := .ref (xa G 77)) rfl fl_RX8_10 dH_worm_42 ?_
      refine xR_getf 45 xcf5 0 77 (by decide) (by decide) (xC_twn (t := 0) (by decide)) (v := .ref (xa G 72)) rfl fl_RX8_68 dH_worm_45 ?_
      refine xR_iln 48 2 dH_worm_48 rfl rfl ?_
      refine xR_ic 49 (4 : Int32) dH_worm_49 (by decide) ?_
      refine xR_iln 50 3 dH_worm_50 rfl rfl ?_
      refine xR_callVvc 51 cv_B_set ml_RX8_124 ⟨Nat.le_of_ble_eq_true rfl, Nat.le_of_ble_eq_true rfl⟩ xcf0 rfl 72 (by decide) (xC_brd (b := 0) (by decide)) [.int v1, .int (4 : Int32), .int v2] rfl rfl (Nat.le_of_ble_eq_true rfl) dH_worm_51 (kB_set G 0 (by decide) z m v1 (4 : Int32) v2) (fun r51 => ?_)
      refine xR_aln 54 1 dH_worm_54 rfl rfl ?_
      refine xR_getf 55 xcf6 0 81 (by decide) (by decide) rfl (v := .ref (xa G 77)) rfl fl_RX8_10 dH_worm_55 ?_
      refine xR_getf 58 xcf5 1 77 (by decide) (by decide) (xC_twn (t := 0) (by decide)) (v := .ref (xa G 37)) rfl fl_RX8_95 dH_worm_58 ?_
      refine xR_callVvc 61 cv_T_empty ml_RX8_98 ⟨Nat.le_of_ble_eq_true rfl, Nat.le_of_ble_eq_true rfl⟩ xcf3 rfl 37 (by decide) (xC_tab (t := 1) (by decide)) [] rfl rfl (Nat.le_of_ble_eq_true rfl) dH_worm_61 (kT_empty G 1 (by decide) z r51) (fun r61 => ?_)
      refine xR_iln 64 0 dH_worm_64 rfl rfl ?_
      exact xR_iret 65 rfl rfl dH_worm_65
    · refine xR_aln 23 0 dH_worm_23 rfl rfl ?_
      refine xR_callVic 24 cv_H_bad ml_RX8_82 ⟨Nat.le_of_ble_eq_true rfl, Nat.le_of_ble_eq_true rfl⟩ xcf6 rfl 81 (by decide) rfl [] rfl rfl (Nat.le_of_ble_eq_true rfl) dH_worm_24 (kH_bad G z m) (fun r24 => ?_)
      exact xR_iret 27 rfl rfl dH_worm_27
theorem dH_type_0 : decode (xb yyH_type) 0 = .ok (.iload_n 1, 1) := by decide +kernel
theorem dH_type_1 : decode (xb yyH_type) 1 = .ok (.iconst 0, 1) := by decide +kernel
theorem dH_type_2 : decode (xb yyH_type) 2 = .ok (.bipush 127, 2) := by decide +kernel
theorem dH_type_4 : decode (xb yyH_type) 4 = .ok (.invokestatic 78, 3) := by decide +kernel
theorem dH_type_7 : decode (xb yyH_type) 7 = .ok (.ifCond .ne 8, 3) := by decide +kernel
theorem dH_type_10 : decode (xb yyH_type) 10 = .ok (.aload_n 0, 1) := by decide +kernel
theorem dH_type_11 : decode (xb yyH_type) 11 = .ok (.invokevirtual 82, 3) := by decide +kernel
theorem dH_type_14 : decode (xb yyH_type) 14 = .ok (.ireturn, 1) := by decide +kernel
theorem dH_type_15 : decode (xb yyH_type) 15 = .ok (.aload_n 0, 1) := by decide +kernel
theorem dH_type_16 : decode (xb yyH_type) 16 = .ok (.getfield 34, 3) := by decide +kernel
theorem dH_type_19 : decode (xb yyH_type) 19 = .ok (.invokevirtual 127, 3) := by decide +kernel
theorem dH_type_22 : decode (xb yyH_type) 22 = .ok (.istore_n 2, 1) := by decide +kernel
theorem dH_type_23 : decode (xb yyH_type) 23 = .ok (.iload_n 2, 1) := by decide +kernel
theorem dH_type_24 : decode (xb yyH_type) 24 = .ok (.iconst (-1), 1) := by decide +kernel
theorem dH_type_25 : decode (xb yyH_type) 25 = .ok (.if_icmp .ne 8, 3) := by decide +kernel
theorem dH_type_28 : decode (xb yyH_type) 28 = .ok (.aload_n 0, 1) := by decide +kernel
theorem dH_type_29 : decode (xb yyH_type) 29 = .ok (.invokevirtual 103, 3) := by decide +kernel
theorem dH_type_32 : decode (xb yyH_type) 32 = .ok (.ireturn, 1) := by decide +kernel
theorem dH_type_33 : decode (xb yyH_type) 33 = .ok (.aload_n 0, 1) := by decide +kernel
theorem dH_type_34 : decode (xb yyH_type) 34 = .ok (.getfield 34, 3) := by decide +kernel
theorem dH_type_37 : decode (xb yyH_type) 37 = .ok (.iload_n 2, 1) := by decide +kernel
theorem dH_type_38 : decode (xb yyH_type) 38 = .ok (.iconst 0, 1) := by decide +kernel
theorem dH_type_39 : decode (xb yyH_type) 39 = .ok (.iload_n 1, 1) := by decide +kernel
theorem dH_type_40 : decode (xb yyH_type) 40 = .ok (.invokevirtual 91, 3) := by decide +kernel
theorem dH_type_43 : decode (xb yyH_type) 43 = .ok (.aload_n 0, 1) := by decide +kernel
theorem dH_type_44 : decode (xb yyH_type) 44 = .ok (.getfield 34, 3) := by decide +kernel
theorem dH_type_47 : decode (xb yyH_type) 47 = .ok (.invokevirtual 113, 3) := by decide +kernel
theorem dH_type_50 : decode (xb yyH_type) 50 = .ok (.ireturn, 1) := by decide +kernel
def fH_type  (v1 : Int32) (m : xM) : Option (Int32 × xM) := (fH_within v1 (0 : Int32) (127 : Int32)).bind fun r4 => (if r4 = 0 then (fH_bad m).bind fun r11 => some (r11.1, r11.2) else (fT_newRow 29 m).bind fun r19 => (if r19.1 = (-1 : Int32) then (fH_full r19.2).bind fun r29 => some (r29.1, r29.2) else (fT_put 29 r19.1 (0 : Int32) v1 r19.2).bind fun r40 => (fT_many 29 r40).bind fun r47 => some (r47, r40)))
set_option maxRecDepth 100000 in
set_option maxHeartbeats 4000000 in
theorem kH_type (G : xG)   (z : xM) (m : xM) (v1 : Int32) : ∀ a, fH_type  v1 m = some a → xCt G yyH_type [.ref (xa G 81), .int v1] (m, z) (some (.int a.1)) (a.2, z) := by
  refine xR_ct (em := (emic z)) rfl (Nat.le_of_ble_eq_true rfl) ?_
  show xR G yyH_type _ 0 [(0, .ref (xa G 81)), (1, .int v1)] [] _ _
  unfold fH_type
  refine xR_iln 0 1 dH_type_0 rfl rfl ?_
  refine xR_ic 1 (0 : Int32) dH_type_1 (by decide) ?_
  refine xR_bp 2 (127 : Int32) dH_type_2 (by decide) ?_
  refine xR_callSi 4 cs_H_within ml_RX8_78 ⟨Nat.le_of_ble_eq_true rfl, Nat.le_of_ble_eq_true rfl⟩ [.int v1, .int (0 : Int32), .int (127 : Int32)] rfl rfl (Nat.le_of_ble_eq_true rfl) dH_type_4 (kH_within G (m, z) v1 (0 : Int32) (127 : Int32)) (fun r4 => ?_)
  refine xR_ifne 7 15 dH_type_7 (by decide) ?_ ?_
  · refine xR_aln 15 0 dH_type_15 rfl rfl ?_
    refine xR_getf 16 xcf6 4 81 (by decide) (by decide) rfl (v := .ref (xa G 65)) rfl fl_RX8_34 dH_type_16 ?_
    refine xR_callVic 19 cv_T_newRow ml_RX8_127 ⟨Nat.le_of_ble_eq_true rfl, Nat.le_of_ble_eq_true rfl⟩ xcf3 rfl 65 (by decide) (xC_tab (t := 29) (by decide)) [] rfl rfl (Nat.le_of_ble_eq_true rfl) dH_type_19 (kT_newRow G 29 (by decide) z m) (fun r19 => ?_)
    refine xR_isn 22 ([(2, .int r19.1), (0, .ref (xa G 81)), (1, .int v1)]) dH_type_22 rfl (by decide) rfl ?_
    refine xR_iln 23 0 dH_type_23 rfl rfl ?_
    refine xR_ic 24 (-1 : Int32) dH_type_24 (by decide) ?_
    refine xR_icne 25 33 dH_type_25 (by decide) ?_ ?_
    · refine xR_aln 33 1 dH_type_33 rfl rfl ?_
      refine xR_getf 34 xcf6 4 81 (by decide) (by decide) rfl (v := .ref (xa G 65)) rfl fl_RX8_34 dH_type_34 ?_
      refine xR_iln 37 0 dH_type_37 rfl rfl ?_
      refine xR_ic 38 (0 : Int32) dH_type_38 (by decide) ?_
      refine xR_iln 39 2 dH_type_39 rfl rfl ?_
      refine xR_callVvc 40 cv_T_put ml_RX8_91 ⟨Nat.le_of_ble_eq_true rfl, Nat.le_of_ble_eq_true rfl⟩ xcf3 rfl 65 (by decide) (xC_tab (t := 29) (by decide)) [.int r19.1, .int (0 : Int32), .int v1] rfl rfl (Nat.le_of_ble_eq_true rfl) dH_type_40 (kT_put G 29 (by decide) z r19.2 r19.1 (0 : Int32) v1) (fun r40 => ?_)
      refine xR_aln 43 1 dH_type_43 rfl rfl ?_
      refine xR_getf 44 xcf6 4 81 (by decide) (by decide) rfl (v := .ref (xa G 65)) rfl fl_RX8_34 dH_type_44 ?_
      refine xR_callVi 47 cv_T_many ml_RX8_113 ⟨Nat.le_of_ble_eq_true rfl, Nat.le_of_ble_eq_true rfl⟩ xcf3 rfl 65 (by decide) (xC_tab (t := 29) (by decide)) [] rfl rfl (Nat.le_of_ble_eq_true rfl) dH_type_47 (kT_many G 29 (by decide) z r40) (fun r47 => ?_)
      exact xR_iret 50 rfl rfl dH_type_50
    · refine xR_aln 28 1 dH_type_28 rfl rfl ?_
      refine xR_callVic 29 cv_H_full ml_RX8_103 ⟨Nat.le_of_ble_eq_true rfl, Nat.le_of_ble_eq_true rfl⟩ xcf6 rfl 81 (by decide) rfl [] rfl rfl (Nat.le_of_ble_eq_true rfl) dH_type_29 (kH_full G z r19.2) (fun r29 => ?_)
      exact xR_iret 32 rfl rfl dH_type_32
  · refine xR_aln 10 0 dH_type_10 rfl rfl ?_
    refine xR_callVic 11 cv_H_bad ml_RX8_82 ⟨Nat.le_of_ble_eq_true rfl, Nat.le_of_ble_eq_true rfl⟩ xcf6 rfl 81 (by decide) rfl [] rfl rfl (Nat.le_of_ble_eq_true rfl) dH_type_11 (kH_bad G z m) (fun r11 => ?_)
    exact xR_iret 14 rfl rfl dH_type_14
theorem dH_clear_0 : decode (xb yyH_clear) 0 = .ok (.aload_n 0, 1) := by decide +kernel
theorem dH_clear_1 : decode (xb yyH_clear) 1 = .ok (.getfield 34, 3) := by decide +kernel
theorem dH_clear_4 : decode (xb yyH_clear) 4 = .ok (.invokevirtual 113, 3) := by decide +kernel
theorem dH_clear_7 : decode (xb yyH_clear) 7 = .ok (.istore_n 1, 1) := by decide +kernel
theorem dH_clear_8 : decode (xb yyH_clear) 8 = .ok (.aload_n 0, 1) := by decide +kernel
theorem dH_clear_9 : decode (xb yyH_clear) 9 = .ok (.getfield 34, 3) := by decide +kernel
theorem dH_clear_12 : decode (xb yyH_clear) 12 = .ok (.invokevirtual 98, 3) := by decide +kernel
theorem dH_clear_15 : decode (xb yyH_clear) 15 = .ok (.iload_n 1, 1) := by decide +kernel
theorem dH_clear_16 : decode (xb yyH_clear) 16 = .ok (.ireturn, 1) := by decide +kernel
def fH_clear  (m : xM) : Option (Int32 × xM) := (fT_many 29 m).bind fun r4 => (fT_empty 29 m).bind fun r12 => some (r4, r12)
set_option maxRecDepth 100000 in
set_option maxHeartbeats 4000000 in
theorem kH_clear (G : xG)   (z : xM) (m : xM) : ∀ a, fH_clear  m = some a → xCt G yyH_clear [.ref (xa G 81)] (m, z) (some (.int a.1)) (a.2, z) := by
  refine xR_ct (em := (emic z)) rfl (Nat.le_of_ble_eq_true rfl) ?_
  show xR G yyH_clear _ 0 [(0, .ref (xa G 81))] [] _ _
  unfold fH_clear
  refine xR_aln 0 0 dH_clear_0 rfl rfl ?_
  refine xR_getf 1 xcf6 4 81 (by decide) (by decide) rfl (v := .ref (xa G 65)) rfl fl_RX8_34 dH_clear_1 ?_
  refine xR_callVi 4 cv_T_many ml_RX8_113 ⟨Nat.le_of_ble_eq_true rfl, Nat.le_of_ble_eq_true rfl⟩ xcf3 rfl 65 (by decide) (xC_tab (t := 29) (by decide)) [] rfl rfl (Nat.le_of_ble_eq_true rfl) dH_clear_4 (kT_many G 29 (by decide) z m) (fun r4 => ?_)
  refine xR_isn 7 ([(1, .int r4), (0, .ref (xa G 81))]) dH_clear_7 rfl (by decide) rfl ?_
  refine xR_aln 8 1 dH_clear_8 rfl rfl ?_
  refine xR_getf 9 xcf6 4 81 (by decide) (by decide) rfl (v := .ref (xa G 65)) rfl fl_RX8_34 dH_clear_9 ?_
  refine xR_callVvc 12 cv_T_empty ml_RX8_98 ⟨Nat.le_of_ble_eq_true rfl, Nat.le_of_ble_eq_true rfl⟩ xcf3 rfl 65 (by decide) (xC_tab (t := 29) (by decide)) [] rfl rfl (Nat.le_of_ble_eq_true rfl) dH_clear_12 (kT_empty G 29 (by decide) z m) (fun r12 => ?_)
  refine xR_iln 15 0 dH_clear_15 rfl rfl ?_
  exact xR_iret 16 rfl rfl dH_clear_16
theorem dH_read_0 : decode (xb yyH_read) 0 = .ok (.aload_n 0, 1) := by decide +kernel
theorem dH_read_1 : decode (xb yyH_read) 1 = .ok (.getfield 41, 3) := by decide +kernel
theorem dH_read_4 : decode (xb yyH_read) 4 = .ok (.aload_n 0, 1) := by decide +kernel
theorem dH_read_5 : decode (xb yyH_read) 5 = .ok (.getfield 34, 3) := by decide +kernel
theorem dH_read_8 : decode (xb yyH_read) 8 = .ok (.invokevirtual 130, 3) := by decide +kernel
theorem dH_read_11 : decode (xb yyH_read) 11 = .ok (.istore_n 1, 1) := by decide +kernel
theorem dH_read_12 : decode (xb yyH_read) 12 = .ok (.iload_n 1, 1) := by decide +kernel
theorem dH_read_13 : decode (xb yyH_read) 13 = .ok (.ifCond .lt 17, 3) := by decide +kernel
theorem dH_read_16 : decode (xb yyH_read) 16 = .ok (.aload_n 0, 1) := by decide +kernel
theorem dH_read_17 : decode (xb yyH_read) 17 = .ok (.getfield 10, 3) := by decide +kernel
theorem dH_read_20 : decode (xb yyH_read) 20 = .ok (.aload_n 0, 1) := by decide +kernel
theorem dH_read_21 : decode (xb yyH_read) 21 = .ok (.getfield 41, 3) := by decide +kernel
theorem dH_read_24 : decode (xb yyH_read) 24 = .ok (.getfield 134, 3) := by decide +kernel
theorem dH_read_27 : decode (xb yyH_read) 27 = .ok (.invokevirtual 137, 3) := by decide +kernel
theorem dH_read_30 : decode (xb yyH_read) 30 = .ok (.iload_n 1, 1) := by decide +kernel
theorem dH_read_31 : decode (xb yyH_read) 31 = .ok (.ireturn, 1) := by decide +kernel
def fH_read  (m : xM) : Option (Int32 × xM) := (fR_readAll 29 m).bind fun r8 => (if r8.1 < 0 then some (r8.1, r8.2) else (fW_become 0 3 r8.2).bind fun r27 => some (r8.1, r27))
set_option maxRecDepth 100000 in
set_option maxHeartbeats 4000000 in
theorem kH_read (G : xG)   (z : xM) (m : xM) : ∀ a, fH_read  m = some a → xCt G yyH_read [.ref (xa G 81)] (m, z) (some (.int a.1)) (a.2, z) := by
  refine xR_ct (em := (emic z)) rfl (Nat.le_of_ble_eq_true rfl) ?_
  show xR G yyH_read _ 0 [(0, .ref (xa G 81))] [] _ _
  unfold fH_read
  refine xR_aln 0 0 dH_read_0 rfl rfl ?_
  refine xR_getf 1 xcf6 5 81 (by decide) (by decide) rfl (v := .ref (xa G 83)) rfl fl_RX8_41 dH_read_1 ?_
  refine xR_aln 4 0 dH_read_4 rfl rfl ?_
  refine xR_getf 5 xcf6 4 81 (by decide) (by decide) rfl (v := .ref (xa G 65)) rfl fl_RX8_34 dH_read_5 ?_
  refine xR_callVic 8 cv_R_readAll ml_RX8_130 ⟨Nat.le_of_ble_eq_true rfl, Nat.le_of_ble_eq_true rfl⟩ xcf2 rfl 83 (by decide) rfl [.ref (xa G 65)] rfl rfl (Nat.le_of_ble_eq_true rfl) dH_read_8 (kR_readAll G 29 (by decide) z m) (fun r8 => ?_)
  refine xR_isn 11 ([(1, .int r8.1), (0, .ref (xa G 81))]) dH_read_11 rfl (by decide) rfl ?_
  refine xR_iln 12 0 dH_read_12 rfl rfl ?_
  refine xR_iflt 13 30 dH_read_13 (by decide) ?_ ?_
  · refine xR_iln 30 0 dH_read_30 rfl rfl ?_
    exact xR_iret 31 rfl rfl dH_read_31
  · refine xR_aln 16 1 dH_read_16 rfl rfl ?_
    refine xR_getf 17 xcf6 0 81 (by decide) (by decide) rfl (v := .ref (xa G 77)) rfl fl_RX8_10 dH_read_17 ?_
    refine xR_aln 20 1 dH_read_20 rfl rfl ?_
    refine xR_getf 21 xcf6 5 81 (by decide) (by decide) rfl (v := .ref (xa G 83)) rfl fl_RX8_41 dH_read_21 ?_
    refine xR_getf 24 xcf2 1 83 (by decide) (by decide) rfl (v := .ref (xa G 80)) rfl fl_RX8_134 dH_read_24 ?_
    refine xR_callVvc 27 cv_W_become ml_RX8_137 ⟨Nat.le_of_ble_eq_true rfl, Nat.le_of_ble_eq_true rfl⟩ xcf5 rfl 77 (by decide) (xC_twn (t := 0) (by decide)) [.ref (xa G 80)] rfl rfl (Nat.le_of_ble_eq_true rfl) dH_read_27 (kW_become G 0 3 (by decide) (by decide) z r8.2) (fun r27 => ?_)
    refine xR_iln 30 0 dH_read_30 rfl rfl ?_
    exact xR_iret 31 rfl rfl dH_read_31
theorem dH_year_0 : decode (xb yyH_year) 0 = .ok (.iload_n 1, 1) := by decide +kernel
theorem dH_year_1 : decode (xb yyH_year) 1 = .ok (.iconst 1, 1) := by decide +kernel
theorem dH_year_2 : decode (xb yyH_year) 2 = .ok (.bipush 60, 2) := by decide +kernel
theorem dH_year_4 : decode (xb yyH_year) 4 = .ok (.invokestatic 78, 3) := by decide +kernel
theorem dH_year_7 : decode (xb yyH_year) 7 = .ok (.ifCond .ne 8, 3) := by decide +kernel
theorem dH_year_10 : decode (xb yyH_year) 10 = .ok (.aload_n 0, 1) := by decide +kernel
theorem dH_year_11 : decode (xb yyH_year) 11 = .ok (.invokevirtual 82, 3) := by decide +kernel
theorem dH_year_14 : decode (xb yyH_year) 14 = .ok (.ireturn, 1) := by decide +kernel
theorem dH_year_15 : decode (xb yyH_year) 15 = .ok (.aload_n 0, 1) := by decide +kernel
theorem dH_year_16 : decode (xb yyH_year) 16 = .ok (.getfield 10, 3) := by decide +kernel
theorem dH_year_19 : decode (xb yyH_year) 19 = .ok (.invokevirtual 141, 3) := by decide +kernel
theorem dH_year_22 : decode (xb yyH_year) 22 = .ok (.aload_n 0, 1) := by decide +kernel
theorem dH_year_23 : decode (xb yyH_year) 23 = .ok (.getfield 10, 3) := by decide +kernel
theorem dH_year_26 : decode (xb yyH_year) 26 = .ok (.iload_n 1, 1) := by decide +kernel
theorem dH_year_27 : decode (xb yyH_year) 27 = .ok (.invokevirtual 144, 3) := by decide +kernel
theorem dH_year_30 : decode (xb yyH_year) 30 = .ok (.aload_n 0, 1) := by decide +kernel
theorem dH_year_31 : decode (xb yyH_year) 31 = .ok (.getfield 10, 3) := by decide +kernel
theorem dH_year_34 : decode (xb yyH_year) 34 = .ok (.getfield 68, 3) := by decide +kernel
theorem dH_year_37 : decode (xb yyH_year) 37 = .ok (.invokevirtual 148, 3) := by decide +kernel
theorem dH_year_40 : decode (xb yyH_year) 40 = .ok (.ireturn, 1) := by decide +kernel
def fH_year  (v1 : Int32) (m : xM) : Option (Int32 × xM) := (fH_within v1 (1 : Int32) (60 : Int32)).bind fun r4 => (if r4 = 0 then (fH_bad m).bind fun r11 => some (r11.1, r11.2) else (fW_remember 0 m).bind fun r19 => (fW_passYears 0 v1 r19).bind fun r27 => (fB_wormy 0 r27).bind fun r37 => some (r37, r27))
set_option maxRecDepth 100000 in
set_option maxHeartbeats 4000000 in
theorem kH_year (G : xG)   (z : xM) (m : xM) (v1 : Int32) : ∀ a, fH_year  v1 m = some a → xCt G yyH_year [.ref (xa G 81), .int v1] (m, z) (some (.int a.1)) (a.2, z) := by
  refine xR_ct (em := (emic z)) rfl (Nat.le_of_ble_eq_true rfl) ?_
  show xR G yyH_year _ 0 [(0, .ref (xa G 81)), (1, .int v1)] [] _ _
  unfold fH_year
  refine xR_iln 0 1 dH_year_0 rfl rfl ?_
  refine xR_ic 1 (1 : Int32) dH_year_1 (by decide) ?_
  refine xR_bp 2 (60 : Int32) dH_year_2 (by decide) ?_
  refine xR_callSi 4 cs_H_within ml_RX8_78 ⟨Nat.le_of_ble_eq_true rfl, Nat.le_of_ble_eq_true rfl⟩ [.int v1, .int (1 : Int32), .int (60 : Int32)] rfl rfl (Nat.le_of_ble_eq_true rfl) dH_year_4 (kH_within G (m, z) v1 (1 : Int32) (60 : Int32)) (fun r4 => ?_)
  refine xR_ifne 7 15 dH_year_7 (by decide) ?_ ?_
  · refine xR_aln 15 0 dH_year_15 rfl rfl ?_
    refine xR_getf 16 xcf6 0 81 (by decide) (by decide) rfl (v := .ref (xa G 77)) rfl fl_RX8_10 dH_year_16 ?_
    refine xR_callVvc 19 cv_W_remember ml_RX8_141 ⟨Nat.le_of_ble_eq_true rfl, Nat.le_of_ble_eq_true rfl⟩ xcf5 rfl 77 (by decide) (xC_twn (t := 0) (by decide)) [] rfl rfl (Nat.le_of_ble_eq_true rfl) dH_year_19 (kW_remember G 0 (by decide) z m) (fun r19 => ?_)
    refine xR_aln 22 0 dH_year_22 rfl rfl ?_
    refine xR_getf 23 xcf6 0 81 (by decide) (by decide) rfl (v := .ref (xa G 77)) rfl fl_RX8_10 dH_year_23 ?_
    refine xR_iln 26 1 dH_year_26 rfl rfl ?_
    refine xR_callVvc 27 cv_W_passYears ml_RX8_144 ⟨Nat.le_of_ble_eq_true rfl, Nat.le_of_ble_eq_true rfl⟩ xcf5 rfl 77 (by decide) (xC_twn (t := 0) (by decide)) [.int v1] rfl rfl (Nat.le_of_ble_eq_true rfl) dH_year_27 (kW_passYears G 0 (by decide) z r19 v1) (fun r27 => ?_)
    refine xR_aln 30 0 dH_year_30 rfl rfl ?_
    refine xR_getf 31 xcf6 0 81 (by decide) (by decide) rfl (v := .ref (xa G 77)) rfl fl_RX8_10 dH_year_31 ?_
    refine xR_getf 34 xcf5 0 77 (by decide) (by decide) (xC_twn (t := 0) (by decide)) (v := .ref (xa G 72)) rfl fl_RX8_68 dH_year_34 ?_
    refine xR_callVi 37 cv_B_wormy ml_RX8_148 ⟨Nat.le_of_ble_eq_true rfl, Nat.le_of_ble_eq_true rfl⟩ xcf0 rfl 72 (by decide) (xC_brd (b := 0) (by decide)) [] rfl rfl (Nat.le_of_ble_eq_true rfl) dH_year_37 (kB_wormy G 0 (by decide) z r27) (fun r37 => ?_)
    exact xR_iret 40 rfl rfl dH_year_40
  · refine xR_aln 10 0 dH_year_10 rfl rfl ?_
    refine xR_callVic 11 cv_H_bad ml_RX8_82 ⟨Nat.le_of_ble_eq_true rfl, Nat.le_of_ble_eq_true rfl⟩ xcf6 rfl 81 (by decide) rfl [] rfl rfl (Nat.le_of_ble_eq_true rfl) dH_year_11 (kH_bad G z m) (fun r11 => ?_)
    exact xR_iret 14 rfl rfl dH_year_14
theorem dH_no_0 : decode (xb yyH_no) 0 = .ok (.aload_n 0, 1) := by decide +kernel
theorem dH_no_1 : decode (xb yyH_no) 1 = .ok (.dup, 1) := by decide +kernel
theorem dH_no_2 : decode (xb yyH_no) 2 = .ok (.getfield 308, 3) := by decide +kernel
theorem dH_no_5 : decode (xb yyH_no) 5 = .ok (.iconst 1, 1) := by decide +kernel
theorem dH_no_6 : decode (xb yyH_no) 6 = .ok (.iadd, 1) := by decide +kernel
theorem dH_no_7 : decode (xb yyH_no) 7 = .ok (.putfield 308, 3) := by decide +kernel
theorem dH_no_10 : decode (xb yyH_no) 10 = .ok (.bipush (-3), 2) := by decide +kernel
theorem dH_no_12 : decode (xb yyH_no) 12 = .ok (.ireturn, 1) := by decide +kernel
def fH_no  (m : xM) : Option (Int32 × xM) := some ((-3 : Int32), (xset m 38 3 ((m.1 38 3) + (1 : Int32))))
set_option maxRecDepth 100000 in
set_option maxHeartbeats 4000000 in
theorem kH_no (G : xG)   (z : xM) (m : xM) : ∀ a, fH_no  m = some a → xCt G yyH_no [.ref (xa G 81)] (m, z) (some (.int a.1)) (a.2, z) := by
  refine xR_ct (em := (emic z)) rfl (Nat.le_of_ble_eq_true rfl) ?_
  show xR G yyH_no _ 0 [(0, .ref (xa G 81))] [] _ _
  unfold fH_no
  refine xR_aln 0 0 dH_no_0 rfl rfl ?_
  refine xR_dup 1 dH_no_1 rfl ?_
  refine xR_getf 2 xcf6 14 81 (by decide) (by decide) rfl (v := .int (m.1 38 3)) rfl fl_RX8_308 dH_no_2 ?_
  refine xR_ic 5 (1 : Int32) dH_no_5 (by decide) ?_
  refine xR_iadd 6 dH_no_6 ?_
  refine xR_putf 7 xcf6 14 81 (by decide) (by decide) rfl rfl rfl rfl (Nat.le_of_ble_eq_true rfl) ((xset m 38 3 ((m.1 38 3) + (1 : Int32))), z) (xW_blk (a := 38) (i := 3) (by decide) (by decide) rfl) fl_RX8_308 dH_no_7 ?_
  refine xR_bp 10 (-3 : Int32) dH_no_10 (by decide) ?_
  exact xR_iret 12 rfl rfl dH_no_12
theorem dH_cuts_0 : decode (xb yyH_cuts) 0 = .ok (.aload_n 0, 1) := by decide +kernel
theorem dH_cuts_1 : decode (xb yyH_cuts) 1 = .ok (.getfield 10, 3) := by decide +kernel
theorem dH_cuts_4 : decode (xb yyH_cuts) 4 = .ok (.getfield 68, 3) := by decide +kernel
theorem dH_cuts_7 : decode (xb yyH_cuts) 7 = .ok (.iload_n 1, 1) := by decide +kernel
theorem dH_cuts_8 : decode (xb yyH_cuts) 8 = .ok (.invokevirtual 118, 3) := by decide +kernel
theorem dH_cuts_11 : decode (xb yyH_cuts) 11 = .ok (.ifCond .eq 14, 3) := by decide +kernel
theorem dH_cuts_14 : decode (xb yyH_cuts) 14 = .ok (.aload_n 0, 1) := by decide +kernel
theorem dH_cuts_15 : decode (xb yyH_cuts) 15 = .ok (.getfield 10, 3) := by decide +kernel
theorem dH_cuts_18 : decode (xb yyH_cuts) 18 = .ok (.iload_n 2, 1) := by decide +kernel
theorem dH_cuts_19 : decode (xb yyH_cuts) 19 = .ok (.invokevirtual 151, 3) := by decide +kernel
theorem dH_cuts_22 : decode (xb yyH_cuts) 22 = .ok (.ifCond .ne 8, 3) := by decide +kernel
theorem dH_cuts_25 : decode (xb yyH_cuts) 25 = .ok (.aload_n 0, 1) := by decide +kernel
theorem dH_cuts_26 : decode (xb yyH_cuts) 26 = .ok (.invokevirtual 82, 3) := by decide +kernel
theorem dH_cuts_29 : decode (xb yyH_cuts) 29 = .ok (.ireturn, 1) := by decide +kernel
theorem dH_cuts_30 : decode (xb yyH_cuts) 30 = .ok (.aload_n 0, 1) := by decide +kernel
theorem dH_cuts_31 : decode (xb yyH_cuts) 31 = .ok (.getfield 10, 3) := by decide +kernel
theorem dH_cuts_34 : decode (xb yyH_cuts) 34 = .ok (.getfield 68, 3) := by decide +kernel
theorem dH_cuts_37 : decode (xb yyH_cuts) 37 = .ok (.iload_n 1, 1) := by decide +kernel
theorem dH_cuts_38 : decode (xb yyH_cuts) 38 = .ok (.invokevirtual 154, 3) := by decide +kernel
theorem dH_cuts_41 : decode (xb yyH_cuts) 41 = .ok (.ifCond .ne 8, 3) := by decide +kernel
theorem dH_cuts_44 : decode (xb yyH_cuts) 44 = .ok (.aload_n 0, 1) := by decide +kernel
theorem dH_cuts_45 : decode (xb yyH_cuts) 45 = .ok (.invokevirtual 157, 3) := by decide +kernel
theorem dH_cuts_48 : decode (xb yyH_cuts) 48 = .ok (.ireturn, 1) := by decide +kernel
theorem dH_cuts_49 : decode (xb yyH_cuts) 49 = .ok (.aload_n 0, 1) := by decide +kernel
theorem dH_cuts_50 : decode (xb yyH_cuts) 50 = .ok (.getfield 10, 3) := by decide +kernel
theorem dH_cuts_53 : decode (xb yyH_cuts) 53 = .ok (.getfield 68, 3) := by decide +kernel
theorem dH_cuts_56 : decode (xb yyH_cuts) 56 = .ok (.iload_n 2, 1) := by decide +kernel
theorem dH_cuts_57 : decode (xb yyH_cuts) 57 = .ok (.invokevirtual 160, 3) := by decide +kernel
theorem dH_cuts_60 : decode (xb yyH_cuts) 60 = .ok (.iconst 4, 1) := by decide +kernel
theorem dH_cuts_61 : decode (xb yyH_cuts) 61 = .ok (.if_icmp .lt 8, 3) := by decide +kernel
theorem dH_cuts_64 : decode (xb yyH_cuts) 64 = .ok (.aload_n 0, 1) := by decide +kernel
theorem dH_cuts_65 : decode (xb yyH_cuts) 65 = .ok (.invokevirtual 103, 3) := by decide +kernel
theorem dH_cuts_68 : decode (xb yyH_cuts) 68 = .ok (.ireturn, 1) := by decide +kernel
theorem dH_cuts_69 : decode (xb yyH_cuts) 69 = .ok (.aload_n 0, 1) := by decide +kernel
theorem dH_cuts_70 : decode (xb yyH_cuts) 70 = .ok (.getfield 10, 3) := by decide +kernel
theorem dH_cuts_73 : decode (xb yyH_cuts) 73 = .ok (.invokevirtual 141, 3) := by decide +kernel
theorem dH_cuts_76 : decode (xb yyH_cuts) 76 = .ok (.aload_n 0, 1) := by decide +kernel
theorem dH_cuts_77 : decode (xb yyH_cuts) 77 = .ok (.getfield 10, 3) := by decide +kernel
theorem dH_cuts_80 : decode (xb yyH_cuts) 80 = .ok (.getfield 68, 3) := by decide +kernel
theorem dH_cuts_83 : decode (xb yyH_cuts) 83 = .ok (.iload_n 1, 1) := by decide +kernel
theorem dH_cuts_84 : decode (xb yyH_cuts) 84 = .ok (.iconst 5, 1) := by decide +kernel
theorem dH_cuts_85 : decode (xb yyH_cuts) 85 = .ok (.iload_n 2, 1) := by decide +kernel
theorem dH_cuts_86 : decode (xb yyH_cuts) 86 = .ok (.invokevirtual 124, 3) := by decide +kernel
theorem dH_cuts_89 : decode (xb yyH_cuts) 89 = .ok (.aload_n 0, 1) := by decide +kernel
theorem dH_cuts_90 : decode (xb yyH_cuts) 90 = .ok (.getfield 10, 3) := by decide +kernel
theorem dH_cuts_93 : decode (xb yyH_cuts) 93 = .ok (.getfield 68, 3) := by decide +kernel
theorem dH_cuts_96 : decode (xb yyH_cuts) 96 = .ok (.iload_n 2, 1) := by decide +kernel
theorem dH_cuts_97 : decode (xb yyH_cuts) 97 = .ok (.invokevirtual 160, 3) := by decide +kernel
theorem dH_cuts_100 : decode (xb yyH_cuts) 100 = .ok (.ireturn, 1) := by decide +kernel
def fH_cuts  (v1 : Int32) (v2 : Int32) (m : xM) : Option (Int32 × xM) := (fB_has 0 m v1).bind fun r8 => (if r8 = 0 then (fH_bad m).bind fun r26 => some (r26.1, r26.2) else (fW_hasInstrument 0 m v2).bind fun r19 => (if r19 = 0 then (fH_bad m).bind fun r26 => some (r26.1, r26.2) else (fB_isFree 0 m v1).bind fun r38 => (if r38 = 0 then (fH_no m).bind fun r45 => some (r45.1, r45.2) else (fB_manyIn 0 m v2).bind fun r57 => (if r57 < (4 : Int32) then (fW_remember 0 m).bind fun r73 => (fB_set 0 v1 (5 : Int32) v2 r73).bind fun r86 => (fB_manyIn 0 r86 v2).bind fun r97 => some (r97, r86) else (fH_full m).bind fun r65 => some (r65.1, r65.2)))))
set_option maxRecDepth 100000 in
set_option maxHeartbeats 4000000 in
theorem kH_cuts (G : xG)   (z : xM) (m : xM) (v1 : Int32) (v2 : Int32) : ∀ a, fH_cuts  v1 v2 m = some a → xCt G yyH_cuts [.ref (xa G 81), .int v1, .int v2] (m, z) (some (.int a.1)) (a.2, z) := by
  refine xR_ct (em := (emic z)) rfl (Nat.le_of_ble_eq_true rfl) ?_
  show xR G yyH_cuts _ 0 [(0, .ref (xa G 81)), (1, .int v1), (2, .int v2)] [] _ _
  unfold fH_cuts
  refine xR_aln 0 0 dH_cuts_0 rfl rfl ?_
  refine xR_getf 1 xcf6 0 81 (by decide) (by decide) rfl (v := .ref (xa G 77)) rfl fl_RX8_10 dH_cuts_1 ?_
  refine xR_getf 4 xcf5 0 77 (by decide) (by decide) (xC_twn (t := 0) (by decide)) (v := .ref (xa G 72)) rfl fl_RX8_68 dH_cuts_4 ?_
  refine xR_iln 7 1 dH_cuts_7 rfl rfl ?_
  refine xR_callVi 8 cv_B_has ml_RX8_118 ⟨Nat.le_of_ble_eq_true rfl, Nat.le_of_ble_eq_true rfl⟩ xcf0 rfl 72 (by decide) (xC_brd (b := 0) (by decide)) [.int v1] rfl rfl (Nat.le_of_ble_eq_true rfl) dH_cuts_8 (kB_has G 0 (by decide) z m v1) (fun r8 => ?_)
  refine xR_ifeq 11 25 dH_cuts_11 (by decide) ?_ ?_
  · refine xR_aln 25 0 dH_cuts_25 rfl rfl ?_
    refine xR_callVic 26 cv_H_bad ml_RX8_82 ⟨Nat.le_of_ble_eq_true rfl, Nat.le_of_ble_eq_true rfl⟩ xcf6 rfl 81 (by decide) rfl [] rfl rfl (Nat.le_of_ble_eq_true rfl) dH_cuts_26 (kH_bad G z m) (fun r26 => ?_)
    exact xR_iret 29 rfl rfl dH_cuts_29
  · refine xR_aln 14 0 dH_cuts_14 rfl rfl ?_
    refine xR_getf 15 xcf6 0 81 (by decide) (by decide) rfl (v := .ref (xa G 77)) rfl fl_RX8_10 dH_cuts_15 ?_
    refine xR_iln 18 2 dH_cuts_18 rfl rfl ?_
    refine xR_callVi 19 cv_W_hasInstrument ml_RX8_151 ⟨Nat.le_of_ble_eq_true rfl, Nat.le_of_ble_eq_true rfl⟩ xcf5 rfl 77 (by decide) (xC_twn (t := 0) (by decide)) [.int v2] rfl rfl (Nat.le_of_ble_eq_true rfl) dH_cuts_19 (kW_hasInstrument G 0 (by decide) z m v2) (fun r19 => ?_)
    refine xR_ifne 22 30 dH_cuts_22 (by decide) ?_ ?_
    · refine xR_aln 30 0 dH_cuts_30 rfl rfl ?_
      refine xR_getf 31 xcf6 0 81 (by decide) (by decide) rfl (v := .ref (xa G 77)) rfl fl_RX8_10 dH_cuts_31 ?_
      refine xR_getf 34 xcf5 0 77 (by decide) (by decide) (xC_twn (t := 0) (by decide)) (v := .ref (xa G 72)) rfl fl_RX8_68 dH_cuts_34 ?_
      refine xR_iln 37 1 dH_cuts_37 rfl rfl ?_
      refine xR_callVi 38 cv_B_isFree ml_RX8_154 ⟨Nat.le_of_ble_eq_true rfl, Nat.le_of_ble_eq_true rfl⟩ xcf0 rfl 72 (by decide) (xC_brd (b := 0) (by decide)) [.int v1] rfl rfl (Nat.le_of_ble_eq_true rfl) dH_cuts_38 (kB_isFree G 0 (by decide) z m v1) (fun r38 => ?_)
      refine xR_ifne 41 49 dH_cuts_41 (by decide) ?_ ?_
      · refine xR_aln 49 0 dH_cuts_49 rfl rfl ?_
        refine xR_getf 50 xcf6 0 81 (by decide) (by decide) rfl (v := .ref (xa G 77)) rfl fl_RX8_10 dH_cuts_50 ?_
        refine xR_getf 53 xcf5 0 77 (by decide) (by decide) (xC_twn (t := 0) (by decide)) (v := .ref (xa G 72)) rfl fl_RX8_68 dH_cuts_53 ?_
        refine xR_iln 56 2 dH_cuts_56 rfl rfl ?_
        refine xR_callVi 57 cv_B_manyIn ml_RX8_160 ⟨Nat.le_of_ble_eq_true rfl, Nat.le_of_ble_eq_true rfl⟩ xcf0 rfl 72 (by decide) (xC_brd (b := 0) (by decide)) [.int v2] rfl rfl (Nat.le_of_ble_eq_true rfl) dH_cuts_57 (kB_manyIn G 0 (by decide) z m v2) (fun r57 => ?_)
        refine xR_ic 60 (4 : Int32) dH_cuts_60 (by decide) ?_
        refine xR_iclt 61 69 dH_cuts_61 (by decide) ?_ ?_
        · refine xR_aln 69 0 dH_cuts_69 rfl rfl ?_
          refine xR_getf 70 xcf6 0 81 (by decide) (by decide) rfl (v := .ref (xa G 77)) rfl fl_RX8_10 dH_cuts_70 ?_
          refine xR_callVvc 73 cv_W_remember ml_RX8_141 ⟨Nat.le_of_ble_eq_true rfl, Nat.le_of_ble_eq_true rfl⟩ xcf5 rfl 77 (by decide) (xC_twn (t := 0) (by decide)) [] rfl rfl (Nat.le_of_ble_eq_true rfl) dH_cuts_73 (kW_remember G 0 (by decide) z m) (fun r73 => ?_)
          refine xR_aln 76 0 dH_cuts_76 rfl rfl ?_
          refine xR_getf 77 xcf6 0 81 (by decide) (by decide) rfl (v := .ref (xa G 77)) rfl fl_RX8_10 dH_cuts_77 ?_
          refine xR_getf 80 xcf5 0 77 (by decide) (by decide) (xC_twn (t := 0) (by decide)) (v := .ref (xa G 72)) rfl fl_RX8_68 dH_cuts_80 ?_
          refine xR_iln 83 1 dH_cuts_83 rfl rfl ?_
          refine xR_ic 84 (5 : Int32) dH_cuts_84 (by decide) ?_
          refine xR_iln 85 2 dH_cuts_85 rfl rfl ?_
          refine xR_callVvc 86 cv_B_set ml_RX8_124 ⟨Nat.le_of_ble_eq_true rfl, Nat.le_of_ble_eq_true rfl⟩ xcf0 rfl 72 (by decide) (xC_brd (b := 0) (by decide)) [.int v1, .int (5 : Int32), .int v2] rfl rfl (Nat.le_of_ble_eq_true rfl) dH_cuts_86 (kB_set G 0 (by decide) z r73 v1 (5 : Int32) v2) (fun r86 => ?_)
          refine xR_aln 89 0 dH_cuts_89 rfl rfl ?_
          refine xR_getf 90 xcf6 0 81 (by decide) (by decide) rfl (v := .ref (xa G 77)) rfl fl_RX8_10 dH_cuts_90 ?_
          refine xR_getf 93 xcf5 0 77 (by decide) (by decide) (xC_twn (t := 0) (by decide)) (v := .ref (xa G 72)) rfl fl_RX8_68 dH_cuts_93 ?_
          refine xR_iln 96 2 dH_cuts_96 rfl rfl ?_
          refine xR_callVi 97 cv_B_manyIn ml_RX8_160 ⟨Nat.le_of_ble_eq_true rfl, Nat.le_of_ble_eq_true rfl⟩ xcf0 rfl 72 (by decide) (xC_brd (b := 0) (by decide)) [.int v2] rfl rfl (Nat.le_of_ble_eq_true rfl) dH_cuts_97 (kB_manyIn G 0 (by decide) z r86 v2) (fun r97 => ?_)
          exact xR_iret 100 rfl rfl dH_cuts_100
        · refine xR_aln 64 0 dH_cuts_64 rfl rfl ?_
          refine xR_callVic 65 cv_H_full ml_RX8_103 ⟨Nat.le_of_ble_eq_true rfl, Nat.le_of_ble_eq_true rfl⟩ xcf6 rfl 81 (by decide) rfl [] rfl rfl (Nat.le_of_ble_eq_true rfl) dH_cuts_65 (kH_full G z m) (fun r65 => ?_)
          exact xR_iret 68 rfl rfl dH_cuts_68
      · refine xR_aln 44 0 dH_cuts_44 rfl rfl ?_
        refine xR_callVic 45 cv_H_no ml_RX8_157 ⟨Nat.le_of_ble_eq_true rfl, Nat.le_of_ble_eq_true rfl⟩ xcf6 rfl 81 (by decide) rfl [] rfl rfl (Nat.le_of_ble_eq_true rfl) dH_cuts_45 (kH_no G z m) (fun r45 => ?_)
        exact xR_iret 48 rfl rfl dH_cuts_48
    · refine xR_aln 25 0 dH_cuts_25 rfl rfl ?_
      refine xR_callVic 26 cv_H_bad ml_RX8_82 ⟨Nat.le_of_ble_eq_true rfl, Nat.le_of_ble_eq_true rfl⟩ xcf6 rfl 81 (by decide) rfl [] rfl rfl (Nat.le_of_ble_eq_true rfl) dH_cuts_26 (kH_bad G z m) (fun r26 => ?_)
      exact xR_iret 29 rfl rfl dH_cuts_29
theorem dH_takes_0 : decode (xb yyH_takes) 0 = .ok (.aload_n 0, 1) := by decide +kernel
theorem dH_takes_1 : decode (xb yyH_takes) 1 = .ok (.getfield 10, 3) := by decide +kernel
theorem dH_takes_4 : decode (xb yyH_takes) 4 = .ok (.getfield 68, 3) := by decide +kernel
theorem dH_takes_7 : decode (xb yyH_takes) 7 = .ok (.iload_n 1, 1) := by decide +kernel
theorem dH_takes_8 : decode (xb yyH_takes) 8 = .ok (.invokevirtual 118, 3) := by decide +kernel
theorem dH_takes_11 : decode (xb yyH_takes) 11 = .ok (.ifCond .ne 8, 3) := by decide +kernel
theorem dH_takes_14 : decode (xb yyH_takes) 14 = .ok (.aload_n 0, 1) := by decide +kernel
theorem dH_takes_15 : decode (xb yyH_takes) 15 = .ok (.invokevirtual 82, 3) := by decide +kernel
theorem dH_takes_18 : decode (xb yyH_takes) 18 = .ok (.ireturn, 1) := by decide +kernel
theorem dH_takes_19 : decode (xb yyH_takes) 19 = .ok (.aload_n 0, 1) := by decide +kernel
theorem dH_takes_20 : decode (xb yyH_takes) 20 = .ok (.getfield 10, 3) := by decide +kernel
theorem dH_takes_23 : decode (xb yyH_takes) 23 = .ok (.getfield 68, 3) := by decide +kernel
theorem dH_takes_26 : decode (xb yyH_takes) 26 = .ok (.iload_n 1, 1) := by decide +kernel
theorem dH_takes_27 : decode (xb yyH_takes) 27 = .ok (.invokevirtual 154, 3) := by decide +kernel
theorem dH_takes_30 : decode (xb yyH_takes) 30 = .ok (.ifCond .eq 8, 3) := by decide +kernel
theorem dH_takes_33 : decode (xb yyH_takes) 33 = .ok (.aload_n 0, 1) := by decide +kernel
theorem dH_takes_34 : decode (xb yyH_takes) 34 = .ok (.invokevirtual 157, 3) := by decide +kernel
theorem dH_takes_37 : decode (xb yyH_takes) 37 = .ok (.ireturn, 1) := by decide +kernel
theorem dH_takes_38 : decode (xb yyH_takes) 38 = .ok (.aload_n 0, 1) := by decide +kernel
theorem dH_takes_39 : decode (xb yyH_takes) 39 = .ok (.getfield 10, 3) := by decide +kernel
theorem dH_takes_42 : decode (xb yyH_takes) 42 = .ok (.invokevirtual 141, 3) := by decide +kernel
theorem dH_takes_45 : decode (xb yyH_takes) 45 = .ok (.aload_n 0, 1) := by decide +kernel
theorem dH_takes_46 : decode (xb yyH_takes) 46 = .ok (.getfield 10, 3) := by decide +kernel
theorem dH_takes_49 : decode (xb yyH_takes) 49 = .ok (.getfield 68, 3) := by decide +kernel
theorem dH_takes_52 : decode (xb yyH_takes) 52 = .ok (.iload_n 1, 1) := by decide +kernel
theorem dH_takes_53 : decode (xb yyH_takes) 53 = .ok (.iconst 5, 1) := by decide +kernel
theorem dH_takes_54 : decode (xb yyH_takes) 54 = .ok (.invokevirtual 121, 3) := by decide +kernel
theorem dH_takes_57 : decode (xb yyH_takes) 57 = .ok (.istore_n 2, 1) := by decide +kernel
theorem dH_takes_58 : decode (xb yyH_takes) 58 = .ok (.aload_n 0, 1) := by decide +kernel
theorem dH_takes_59 : decode (xb yyH_takes) 59 = .ok (.getfield 10, 3) := by decide +kernel
theorem dH_takes_62 : decode (xb yyH_takes) 62 = .ok (.getfield 68, 3) := by decide +kernel
theorem dH_takes_65 : decode (xb yyH_takes) 65 = .ok (.iload_n 1, 1) := by decide +kernel
theorem dH_takes_66 : decode (xb yyH_takes) 66 = .ok (.iconst 5, 1) := by decide +kernel
theorem dH_takes_67 : decode (xb yyH_takes) 67 = .ok (.iconst (-1), 1) := by decide +kernel
theorem dH_takes_68 : decode (xb yyH_takes) 68 = .ok (.invokevirtual 124, 3) := by decide +kernel
theorem dH_takes_71 : decode (xb yyH_takes) 71 = .ok (.iload_n 2, 1) := by decide +kernel
theorem dH_takes_72 : decode (xb yyH_takes) 72 = .ok (.ireturn, 1) := by decide +kernel
def fH_takes  (v1 : Int32) (m : xM) : Option (Int32 × xM) := (fB_has 0 m v1).bind fun r8 => (if r8 = 0 then (fH_bad m).bind fun r15 => some (r15.1, r15.2) else (fB_isFree 0 m v1).bind fun r27 => (if r27 = 0 then (fW_remember 0 m).bind fun r42 => (fB_cell 0 r42 v1 (5 : Int32)).bind fun r54 => (fB_set 0 v1 (5 : Int32) (-1 : Int32) r42).bind fun r68 => some (r54, r68) else (fH_no m).bind fun r34 => some (r34.1, r34.2)))
set_option maxRecDepth 100000 in
set_option maxHeartbeats 4000000 in
theorem kH_takes (G : xG)   (z : xM) (m : xM) (v1 : Int32) : ∀ a, fH_takes  v1 m = some a → xCt G yyH_takes [.ref (xa G 81), .int v1] (m, z) (some (.int a.1)) (a.2, z) := by
  refine xR_ct (em := (emic z)) rfl (Nat.le_of_ble_eq_true rfl) ?_
  show xR G yyH_takes _ 0 [(0, .ref (xa G 81)), (1, .int v1)] [] _ _
  unfold fH_takes
  refine xR_aln 0 0 dH_takes_0 rfl rfl ?_
  refine xR_getf 1 xcf6 0 81 (by decide) (by decide) rfl (v := .ref (xa G 77)) rfl fl_RX8_10 dH_takes_1 ?_
  refine xR_getf 4 xcf5 0 77 (by decide) (by decide) (xC_twn (t := 0) (by decide)) (v := .ref (xa G 72)) rfl fl_RX8_68 dH_takes_4 ?_
  refine xR_iln 7 1 dH_takes_7 rfl rfl ?_
  refine xR_callVi 8 cv_B_has ml_RX8_118 ⟨Nat.le_of_ble_eq_true rfl, Nat.le_of_ble_eq_true rfl⟩ xcf0 rfl 72 (by decide) (xC_brd (b := 0) (by decide)) [.int v1] rfl rfl (Nat.le_of_ble_eq_true rfl) dH_takes_8 (kB_has G 0 (by decide) z m v1) (fun r8 => ?_)
  refine xR_ifne 11 19 dH_takes_11 (by decide) ?_ ?_
  · refine xR_aln 19 0 dH_takes_19 rfl rfl ?_
    refine xR_getf 20 xcf6 0 81 (by decide) (by decide) rfl (v := .ref (xa G 77)) rfl fl_RX8_10 dH_takes_20 ?_
    refine xR_getf 23 xcf5 0 77 (by decide) (by decide) (xC_twn (t := 0) (by decide)) (v := .ref (xa G 72)) rfl fl_RX8_68 dH_takes_23 ?_
    refine xR_iln 26 1 dH_takes_26 rfl rfl ?_
    refine xR_callVi 27 cv_B_isFree ml_RX8_154 ⟨Nat.le_of_ble_eq_true rfl, Nat.le_of_ble_eq_true rfl⟩ xcf0 rfl 72 (by decide) (xC_brd (b := 0) (by decide)) [.int v1] rfl rfl (Nat.le_of_ble_eq_true rfl) dH_takes_27 (kB_isFree G 0 (by decide) z m v1) (fun r27 => ?_)
    refine xR_ifeq 30 38 dH_takes_30 (by decide) ?_ ?_
    · refine xR_aln 38 0 dH_takes_38 rfl rfl ?_
      refine xR_getf 39 xcf6 0 81 (by decide) (by decide) rfl (v := .ref (xa G 77)) rfl fl_RX8_10 dH_takes_39 ?_
      refine xR_callVvc 42 cv_W_remember ml_RX8_141 ⟨Nat.le_of_ble_eq_true rfl, Nat.le_of_ble_eq_true rfl⟩ xcf5 rfl 77 (by decide) (xC_twn (t := 0) (by decide)) [] rfl rfl (Nat.le_of_ble_eq_true rfl) dH_takes_42 (kW_remember G 0 (by decide) z m) (fun r42 => ?_)
      refine xR_aln 45 0 dH_takes_45 rfl rfl ?_
      refine xR_getf 46 xcf6 0 81 (by decide) (by decide) rfl (v := .ref (xa G 77)) rfl fl_RX8_10 dH_takes_46 ?_
      refine xR_getf 49 xcf5 0 77 (by decide) (by decide) (xC_twn (t := 0) (by decide)) (v := .ref (xa G 72)) rfl fl_RX8_68 dH_takes_49 ?_
      refine xR_iln 52 1 dH_takes_52 rfl rfl ?_
      refine xR_ic 53 (5 : Int32) dH_takes_53 (by decide) ?_
      refine xR_callVi 54 cv_B_cell ml_RX8_121 ⟨Nat.le_of_ble_eq_true rfl, Nat.le_of_ble_eq_true rfl⟩ xcf0 rfl 72 (by decide) (xC_brd (b := 0) (by decide)) [.int v1, .int (5 : Int32)] rfl rfl (Nat.le_of_ble_eq_true rfl) dH_takes_54 (kB_cell G 0 (by decide) z r42 v1 (5 : Int32)) (fun r54 => ?_)
      refine xR_isn 57 ([(2, .int r54), (0, .ref (xa G 81)), (1, .int v1)]) dH_takes_57 rfl (by decide) rfl ?_
      refine xR_aln 58 1 dH_takes_58 rfl rfl ?_
      refine xR_getf 59 xcf6 0 81 (by decide) (by decide) rfl (v := .ref (xa G 77)) rfl fl_RX8_10 dH_takes_59 ?_
      refine xR_getf 62 xcf5 0 77 (by decide) (by decide) (xC_twn (t := 0) (by decide)) (v := .ref (xa G 72)) rfl fl_RX8_68 dH_takes_62 ?_
      refine xR_iln 65 2 dH_takes_65 rfl rfl ?_
      refine xR_ic 66 (5 : Int32) dH_takes_66 (by decide) ?_
      refine xR_ic 67 (-1 : Int32) dH_takes_67 (by decide) ?_
      refine xR_callVvc 68 cv_B_set ml_RX8_124 ⟨Nat.le_of_ble_eq_true rfl, Nat.le_of_ble_eq_true rfl⟩ xcf0 rfl 72 (by decide) (xC_brd (b := 0) (by decide)) [.int v1, .int (5 : Int32), .int (-1 : Int32)] rfl rfl (Nat.le_of_ble_eq_true rfl) dH_takes_68 (kB_set G 0 (by decide) z r42 v1 (5 : Int32) (-1 : Int32)) (fun r68 => ?_)
      refine xR_iln 71 0 dH_takes_71 rfl rfl ?_
      exact xR_iret 72 rfl rfl dH_takes_72
    · refine xR_aln 33 0 dH_takes_33 rfl rfl ?_
      refine xR_callVic 34 cv_H_no ml_RX8_157 ⟨Nat.le_of_ble_eq_true rfl, Nat.le_of_ble_eq_true rfl⟩ xcf6 rfl 81 (by decide) rfl [] rfl rfl (Nat.le_of_ble_eq_true rfl) dH_takes_34 (kH_no G z m) (fun r34 => ?_)
      exact xR_iret 37 rfl rfl dH_takes_37
  · refine xR_aln 14 0 dH_takes_14 rfl rfl ?_
    refine xR_callVic 15 cv_H_bad ml_RX8_82 ⟨Nat.le_of_ble_eq_true rfl, Nat.le_of_ble_eq_true rfl⟩ xcf6 rfl 81 (by decide) rfl [] rfl rfl (Nat.le_of_ble_eq_true rfl) dH_takes_15 (kH_bad G z m) (fun r15 => ?_)
    exact xR_iret 18 rfl rfl dH_takes_18
theorem dH_dries_0 : decode (xb yyH_dries) 0 = .ok (.aload_n 0, 1) := by decide +kernel
theorem dH_dries_1 : decode (xb yyH_dries) 1 = .ok (.getfield 10, 3) := by decide +kernel
theorem dH_dries_4 : decode (xb yyH_dries) 4 = .ok (.getfield 68, 3) := by decide +kernel
theorem dH_dries_7 : decode (xb yyH_dries) 7 = .ok (.iload_n 1, 1) := by decide +kernel
theorem dH_dries_8 : decode (xb yyH_dries) 8 = .ok (.invokevirtual 118, 3) := by decide +kernel
theorem dH_dries_11 : decode (xb yyH_dries) 11 = .ok (.ifCond .eq 13, 3) := by decide +kernel
theorem dH_dries_14 : decode (xb yyH_dries) 14 = .ok (.iload_n 2, 1) := by decide +kernel
theorem dH_dries_15 : decode (xb yyH_dries) 15 = .ok (.iconst 1, 1) := by decide +kernel
theorem dH_dries_16 : decode (xb yyH_dries) 16 = .ok (.bipush 9, 2) := by decide +kernel
theorem dH_dries_18 : decode (xb yyH_dries) 18 = .ok (.invokestatic 78, 3) := by decide +kernel
theorem dH_dries_21 : decode (xb yyH_dries) 21 = .ok (.ifCond .ne 8, 3) := by decide +kernel
theorem dH_dries_24 : decode (xb yyH_dries) 24 = .ok (.aload_n 0, 1) := by decide +kernel
theorem dH_dries_25 : decode (xb yyH_dries) 25 = .ok (.invokevirtual 82, 3) := by decide +kernel
theorem dH_dries_28 : decode (xb yyH_dries) 28 = .ok (.ireturn, 1) := by decide +kernel
theorem dH_dries_29 : decode (xb yyH_dries) 29 = .ok (.aload_n 0, 1) := by decide +kernel
theorem dH_dries_30 : decode (xb yyH_dries) 30 = .ok (.getfield 10, 3) := by decide +kernel
theorem dH_dries_33 : decode (xb yyH_dries) 33 = .ok (.getfield 68, 3) := by decide +kernel
theorem dH_dries_36 : decode (xb yyH_dries) 36 = .ok (.iload_n 1, 1) := by decide +kernel
theorem dH_dries_37 : decode (xb yyH_dries) 37 = .ok (.iconst 2, 1) := by decide +kernel
theorem dH_dries_38 : decode (xb yyH_dries) 38 = .ok (.invokevirtual 121, 3) := by decide +kernel
theorem dH_dries_41 : decode (xb yyH_dries) 41 = .ok (.ifCond .ne 8, 3) := by decide +kernel
theorem dH_dries_44 : decode (xb yyH_dries) 44 = .ok (.aload_n 0, 1) := by decide +kernel
theorem dH_dries_45 : decode (xb yyH_dries) 45 = .ok (.invokevirtual 157, 3) := by decide +kernel
theorem dH_dries_48 : decode (xb yyH_dries) 48 = .ok (.ireturn, 1) := by decide +kernel
theorem dH_dries_49 : decode (xb yyH_dries) 49 = .ok (.aload_n 0, 1) := by decide +kernel
theorem dH_dries_50 : decode (xb yyH_dries) 50 = .ok (.getfield 10, 3) := by decide +kernel
theorem dH_dries_53 : decode (xb yyH_dries) 53 = .ok (.invokevirtual 141, 3) := by decide +kernel
theorem dH_dries_56 : decode (xb yyH_dries) 56 = .ok (.aload_n 0, 1) := by decide +kernel
theorem dH_dries_57 : decode (xb yyH_dries) 57 = .ok (.getfield 10, 3) := by decide +kernel
theorem dH_dries_60 : decode (xb yyH_dries) 60 = .ok (.getfield 68, 3) := by decide +kernel
theorem dH_dries_63 : decode (xb yyH_dries) 63 = .ok (.iload_n 1, 1) := by decide +kernel
theorem dH_dries_64 : decode (xb yyH_dries) 64 = .ok (.iload_n 2, 1) := by decide +kernel
theorem dH_dries_65 : decode (xb yyH_dries) 65 = .ok (.invokevirtual 163, 3) := by decide +kernel
theorem dH_dries_68 : decode (xb yyH_dries) 68 = .ok (.aload_n 0, 1) := by decide +kernel
theorem dH_dries_69 : decode (xb yyH_dries) 69 = .ok (.getfield 10, 3) := by decide +kernel
theorem dH_dries_72 : decode (xb yyH_dries) 72 = .ok (.getfield 68, 3) := by decide +kernel
theorem dH_dries_75 : decode (xb yyH_dries) 75 = .ok (.iload_n 1, 1) := by decide +kernel
theorem dH_dries_76 : decode (xb yyH_dries) 76 = .ok (.iconst 2, 1) := by decide +kernel
theorem dH_dries_77 : decode (xb yyH_dries) 77 = .ok (.invokevirtual 121, 3) := by decide +kernel
theorem dH_dries_80 : decode (xb yyH_dries) 80 = .ok (.ireturn, 1) := by decide +kernel
def fH_dries  (v1 : Int32) (v2 : Int32) (m : xM) : Option (Int32 × xM) := (fB_has 0 m v1).bind fun r8 => (if r8 = 0 then (fH_bad m).bind fun r25 => some (r25.1, r25.2) else (fH_within v2 (1 : Int32) (9 : Int32)).bind fun r18 => (if r18 = 0 then (fH_bad m).bind fun r25 => some (r25.1, r25.2) else (fB_cell 0 m v1 (2 : Int32)).bind fun r38 => (if r38 = 0 then (fH_no m).bind fun r45 => some (r45.1, r45.2) else (fW_remember 0 m).bind fun r53 => (fB_lessDamp 0 v1 v2 r53).bind fun r65 => (fB_cell 0 r65 v1 (2 : Int32)).bind fun r77 => some (r77, r65))))
set_option maxRecDepth 100000 in
set_option maxHeartbeats 4000000 in
theorem kH_dries (G : xG)   (z : xM) (m : xM) (v1 : Int32) (v2 : Int32) : ∀ a, fH_dries  v1 v2 m = some a → xCt G yyH_dries [.ref (xa G 81), .int v1, .int v2] (m, z) (some (.int a.1)) (a.2, z) := by
  refine xR_ct (em := (emic z)) rfl (Nat.le_of_ble_eq_true rfl) ?_
  show xR G yyH_dries _ 0 [(0, .ref (xa G 81)), (1, .int v1), (2, .int v2)] [] _ _
  unfold fH_dries
  refine xR_aln 0 0 dH_dries_0 rfl rfl ?_
  refine xR_getf 1 xcf6 0 81 (by decide) (by decide) rfl (v := .ref (xa G 77)) rfl fl_RX8_10 dH_dries_1 ?_
  refine xR_getf 4 xcf5 0 77 (by decide) (by decide) (xC_twn (t := 0) (by decide)) (v := .ref (xa G 72)) rfl fl_RX8_68 dH_dries_4 ?_
  refine xR_iln 7 1 dH_dries_7 rfl rfl ?_
  refine xR_callVi 8 cv_B_has ml_RX8_118 ⟨Nat.le_of_ble_eq_true rfl, Nat.le_of_ble_eq_true rfl⟩ xcf0 rfl 72 (by decide) (xC_brd (b := 0) (by decide)) [.int v1] rfl rfl (Nat.le_of_ble_eq_true rfl) dH_dries_8 (kB_has G 0 (by decide) z m v1) (fun r8 => ?_)
  refine xR_ifeq 11 24 dH_dries_11 (by decide) ?_ ?_
  · refine xR_aln 24 0 dH_dries_24 rfl rfl ?_
    refine xR_callVic 25 cv_H_bad ml_RX8_82 ⟨Nat.le_of_ble_eq_true rfl, Nat.le_of_ble_eq_true rfl⟩ xcf6 rfl 81 (by decide) rfl [] rfl rfl (Nat.le_of_ble_eq_true rfl) dH_dries_25 (kH_bad G z m) (fun r25 => ?_)
    exact xR_iret 28 rfl rfl dH_dries_28
  · refine xR_iln 14 2 dH_dries_14 rfl rfl ?_
    refine xR_ic 15 (1 : Int32) dH_dries_15 (by decide) ?_
    refine xR_bp 16 (9 : Int32) dH_dries_16 (by decide) ?_
    refine xR_callSi 18 cs_H_within ml_RX8_78 ⟨Nat.le_of_ble_eq_true rfl, Nat.le_of_ble_eq_true rfl⟩ [.int v2, .int (1 : Int32), .int (9 : Int32)] rfl rfl (Nat.le_of_ble_eq_true rfl) dH_dries_18 (kH_within G (m, z) v2 (1 : Int32) (9 : Int32)) (fun r18 => ?_)
    refine xR_ifne 21 29 dH_dries_21 (by decide) ?_ ?_
    · refine xR_aln 29 0 dH_dries_29 rfl rfl ?_
      refine xR_getf 30 xcf6 0 81 (by decide) (by decide) rfl (v := .ref (xa G 77)) rfl fl_RX8_10 dH_dries_30 ?_
      refine xR_getf 33 xcf5 0 77 (by decide) (by decide) (xC_twn (t := 0) (by decide)) (v := .ref (xa G 72)) rfl fl_RX8_68 dH_dries_33 ?_
      refine xR_iln 36 1 dH_dries_36 rfl rfl ?_
      refine xR_ic 37 (2 : Int32) dH_dries_37 (by decide) ?_
      refine xR_callVi 38 cv_B_cell ml_RX8_121 ⟨Nat.le_of_ble_eq_true rfl, Nat.le_of_ble_eq_true rfl⟩ xcf0 rfl 72 (by decide) (xC_brd (b := 0) (by decide)) [.int v1, .int (2 : Int32)] rfl rfl (Nat.le_of_ble_eq_true rfl) dH_dries_38 (kB_cell G 0 (by decide) z m v1 (2 : Int32)) (fun r38 => ?_)
      refine xR_ifne 41 49 dH_dries_41 (by decide) ?_ ?_
      · refine xR_aln 49 0 dH_dries_49 rfl rfl ?_
        refine xR_getf 50 xcf6 0 81 (by decide) (by decide) rfl (v := .ref (xa G 77)) rfl fl_RX8_10 dH_dries_50 ?_
        refine xR_callVvc 53 cv_W_remember ml_RX8_141 ⟨Nat.le_of_ble_eq_true rfl, Nat.le_of_ble_eq_true rfl⟩ xcf5 rfl 77 (by decide) (xC_twn (t := 0) (by decide)) [] rfl rfl (Nat.le_of_ble_eq_true rfl) dH_dries_53 (kW_remember G 0 (by decide) z m) (fun r53 => ?_)
        refine xR_aln 56 0 dH_dries_56 rfl rfl ?_
        refine xR_getf 57 xcf6 0 81 (by decide) (by decide) rfl (v := .ref (xa G 77)) rfl fl_RX8_10 dH_dries_57 ?_
        refine xR_getf 60 xcf5 0 77 (by decide) (by decide) (xC_twn (t := 0) (by decide)) (v := .ref (xa G 72)) rfl fl_RX8_68 dH_dries_60 ?_
        refine xR_iln 63 1 dH_dries_63 rfl rfl ?_
        refine xR_iln 64 2 dH_dries_64 rfl rfl ?_
        refine xR_callVvc 65 cv_B_lessDamp ml_RX8_163 ⟨Nat.le_of_ble_eq_true rfl, Nat.le_of_ble_eq_true rfl⟩ xcf0 rfl 72 (by decide) (xC_brd (b := 0) (by decide)) [.int v1, .int v2] rfl rfl (Nat.le_of_ble_eq_true rfl) dH_dries_65 (kB_lessDamp G 0 (by decide) z r53 v1 v2) (fun r65 => ?_)
        refine xR_aln 68 0 dH_dries_68 rfl rfl ?_
        refine xR_getf 69 xcf6 0 81 (by decide) (by decide) rfl (v := .ref (xa G 77)) rfl fl_RX8_10 dH_dries_69 ?_
        refine xR_getf 72 xcf5 0 77 (by decide) (by decide) (xC_twn (t := 0) (by decide)) (v := .ref (xa G 72)) rfl fl_RX8_68 dH_dries_72 ?_
        refine xR_iln 75 1 dH_dries_75 rfl rfl ?_
        refine xR_ic 76 (2 : Int32) dH_dries_76 (by decide) ?_
        refine xR_callVi 77 cv_B_cell ml_RX8_121 ⟨Nat.le_of_ble_eq_true rfl, Nat.le_of_ble_eq_true rfl⟩ xcf0 rfl 72 (by decide) (xC_brd (b := 0) (by decide)) [.int v1, .int (2 : Int32)] rfl rfl (Nat.le_of_ble_eq_true rfl) dH_dries_77 (kB_cell G 0 (by decide) z r65 v1 (2 : Int32)) (fun r77 => ?_)
        exact xR_iret 80 rfl rfl dH_dries_80
      · refine xR_aln 44 0 dH_dries_44 rfl rfl ?_
        refine xR_callVic 45 cv_H_no ml_RX8_157 ⟨Nat.le_of_ble_eq_true rfl, Nat.le_of_ble_eq_true rfl⟩ xcf6 rfl 81 (by decide) rfl [] rfl rfl (Nat.le_of_ble_eq_true rfl) dH_dries_45 (kH_no G z m) (fun r45 => ?_)
        exact xR_iret 48 rfl rfl dH_dries_48
    · refine xR_aln 24 0 dH_dries_24 rfl rfl ?_
      refine xR_callVic 25 cv_H_bad ml_RX8_82 ⟨Nat.le_of_ble_eq_true rfl, Nat.le_of_ble_eq_true rfl⟩ xcf6 rfl 81 (by decide) rfl [] rfl rfl (Nat.le_of_ble_eq_true rfl) dH_dries_25 (kH_bad G z m) (fun r25 => ?_)
      exact xR_iret 28 rfl rfl dH_dries_28
theorem dH_undo_0 : decode (xb yyH_undo) 0 = .ok (.aload_n 0, 1) := by decide +kernel
theorem dH_undo_1 : decode (xb yyH_undo) 1 = .ok (.getfield 10, 3) := by decide +kernel
theorem dH_undo_4 : decode (xb yyH_undo) 4 = .ok (.getfield 95, 3) := by decide +kernel
theorem dH_undo_7 : decode (xb yyH_undo) 7 = .ok (.invokevirtual 113, 3) := by decide +kernel
theorem dH_undo_10 : decode (xb yyH_undo) 10 = .ok (.ifCond .ne 8, 3) := by decide +kernel
theorem dH_undo_13 : decode (xb yyH_undo) 13 = .ok (.aload_n 0, 1) := by decide +kernel
theorem dH_undo_14 : decode (xb yyH_undo) 14 = .ok (.invokevirtual 157, 3) := by decide +kernel
theorem dH_undo_17 : decode (xb yyH_undo) 17 = .ok (.ireturn, 1) := by decide +kernel
theorem dH_undo_18 : decode (xb yyH_undo) 18 = .ok (.aload_n 0, 1) := by decide +kernel
theorem dH_undo_19 : decode (xb yyH_undo) 19 = .ok (.getfield 10, 3) := by decide +kernel
theorem dH_undo_22 : decode (xb yyH_undo) 22 = .ok (.invokevirtual 166, 3) := by decide +kernel
theorem dH_undo_25 : decode (xb yyH_undo) 25 = .ok (.aload_n 0, 1) := by decide +kernel
theorem dH_undo_26 : decode (xb yyH_undo) 26 = .ok (.getfield 10, 3) := by decide +kernel
theorem dH_undo_29 : decode (xb yyH_undo) 29 = .ok (.getfield 68, 3) := by decide +kernel
theorem dH_undo_32 : decode (xb yyH_undo) 32 = .ok (.getfield 169, 3) := by decide +kernel
theorem dH_undo_35 : decode (xb yyH_undo) 35 = .ok (.ireturn, 1) := by decide +kernel
def fH_undo  (m : xM) : Option (Int32 × xM) := (fT_many 1 m).bind fun r7 => (if r7 = 0 then (fH_no m).bind fun r14 => some (r14.1, r14.2) else (fW_stepBack 0 m).bind fun r22 => some ((r22.1 37 0), r22))
set_option maxRecDepth 100000 in
set_option maxHeartbeats 4000000 in
theorem kH_undo (G : xG)   (z : xM) (m : xM) : ∀ a, fH_undo  m = some a → xCt G yyH_undo [.ref (xa G 81)] (m, z) (some (.int a.1)) (a.2, z) := by
  refine xR_ct (em := (emic z)) rfl (Nat.le_of_ble_eq_true rfl) ?_
  show xR G yyH_undo _ 0 [(0, .ref (xa G 81))] [] _ _
  unfold fH_undo
  refine xR_aln 0 0 dH_undo_0 rfl rfl ?_
  refine xR_getf 1 xcf6 0 81 (by decide) (by decide) rfl (v := .ref (xa G 77)) rfl fl_RX8_10 dH_undo_1 ?_
  refine xR_getf 4 xcf5 1 77 (by decide) (by decide) (xC_twn (t := 0) (by decide)) (v := .ref (xa G 37)) rfl fl_RX8_95 dH_undo_4 ?_
  refine xR_callVi 7 cv_T_many ml_RX8_113 ⟨Nat.le_of_ble_eq_true rfl, Nat.le_of_ble_eq_true rfl⟩ xcf3 rfl 37 (by decide) (xC_tab (t := 1) (by decide)) [] rfl rfl (Nat.le_of_ble_eq_true rfl) dH_undo_7 (kT_many G 1 (by decide) z m) (fun r7 => ?_)
  refine xR_ifne 10 18 dH_undo_10 (by decide) ?_ ?_
  · refine xR_aln 18 0 dH_undo_18 rfl rfl ?_
    refine xR_getf 19 xcf6 0 81 (by decide) (by decide) rfl (v := .ref (xa G 77)) rfl fl_RX8_10 dH_undo_19 ?_
    refine xR_callVvc 22 cv_W_stepBack ml_RX8_166 ⟨Nat.le_of_ble_eq_true rfl, Nat.le_of_ble_eq_true rfl⟩ xcf5 rfl 77 (by decide) (xC_twn (t := 0) (by decide)) [] rfl rfl (Nat.le_of_ble_eq_true rfl) dH_undo_22 (kW_stepBack G 0 (by decide) z m) (fun r22 => ?_)
    refine xR_aln 25 0 dH_undo_25 rfl rfl ?_
    refine xR_getf 26 xcf6 0 81 (by decide) (by decide) rfl (v := .ref (xa G 77)) rfl fl_RX8_10 dH_undo_26 ?_
    refine xR_getf 29 xcf5 0 77 (by decide) (by decide) (xC_twn (t := 0) (by decide)) (v := .ref (xa G 72)) rfl fl_RX8_68 dH_undo_29 ?_
    refine xR_getf 32 xcf0 1 72 (by decide) (by decide) (xC_brd (b := 0) (by decide)) (v := .int (r22.1 37 0)) rfl fl_RX8_169 dH_undo_32 ?_
    exact xR_iret 35 rfl rfl dH_undo_35
  · refine xR_aln 13 0 dH_undo_13 rfl rfl ?_
    refine xR_callVic 14 cv_H_no ml_RX8_157 ⟨Nat.le_of_ble_eq_true rfl, Nat.le_of_ble_eq_true rfl⟩ xcf6 rfl 81 (by decide) rfl [] rfl rfl (Nat.le_of_ble_eq_true rfl) dH_undo_14 (kH_no G z m) (fun r14 => ?_)
    exact xR_iret 17 rfl rfl dH_undo_17
theorem dH_of_0 : decode (xb yyH_of) 0 = .ok (.aload_n 0, 1) := by decide +kernel
theorem dH_of_1 : decode (xb yyH_of) 1 = .ok (.getfield 10, 3) := by decide +kernel
theorem dH_of_4 : decode (xb yyH_of) 4 = .ok (.getfield 68, 3) := by decide +kernel
theorem dH_of_7 : decode (xb yyH_of) 7 = .ok (.iload_n 1, 1) := by decide +kernel
theorem dH_of_8 : decode (xb yyH_of) 8 = .ok (.invokevirtual 118, 3) := by decide +kernel
theorem dH_of_11 : decode (xb yyH_of) 11 = .ok (.ifCond .eq 12, 3) := by decide +kernel
theorem dH_of_14 : decode (xb yyH_of) 14 = .ok (.iload_n 2, 1) := by decide +kernel
theorem dH_of_15 : decode (xb yyH_of) 15 = .ok (.iconst 0, 1) := by decide +kernel
theorem dH_of_16 : decode (xb yyH_of) 16 = .ok (.iconst 5, 1) := by decide +kernel
theorem dH_of_17 : decode (xb yyH_of) 17 = .ok (.invokestatic 78, 3) := by decide +kernel
theorem dH_of_20 : decode (xb yyH_of) 20 = .ok (.ifCond .ne 8, 3) := by decide +kernel
theorem dH_of_23 : decode (xb yyH_of) 23 = .ok (.aload_n 0, 1) := by decide +kernel
theorem dH_of_24 : decode (xb yyH_of) 24 = .ok (.invokevirtual 82, 3) := by decide +kernel
theorem dH_of_27 : decode (xb yyH_of) 27 = .ok (.ireturn, 1) := by decide +kernel
theorem dH_of_28 : decode (xb yyH_of) 28 = .ok (.aload_n 0, 1) := by decide +kernel
theorem dH_of_29 : decode (xb yyH_of) 29 = .ok (.getfield 10, 3) := by decide +kernel
theorem dH_of_32 : decode (xb yyH_of) 32 = .ok (.getfield 68, 3) := by decide +kernel
theorem dH_of_35 : decode (xb yyH_of) 35 = .ok (.iload_n 1, 1) := by decide +kernel
theorem dH_of_36 : decode (xb yyH_of) 36 = .ok (.iload_n 2, 1) := by decide +kernel
theorem dH_of_37 : decode (xb yyH_of) 37 = .ok (.invokevirtual 121, 3) := by decide +kernel
theorem dH_of_40 : decode (xb yyH_of) 40 = .ok (.ireturn, 1) := by decide +kernel
def fH_of  (v1 : Int32) (v2 : Int32) (m : xM) : Option (Int32 × xM) := (fB_has 0 m v1).bind fun r8 => (if r8 = 0 then (fH_bad m).bind fun r24 => some (r24.1, r24.2) else (fH_within v2 (0 : Int32) (5 : Int32)).bind fun r17 => (if r17 = 0 then (fH_bad m).bind fun r24 => some (r24.1, r24.2) else (fB_cell 0 m v1 v2).bind fun r37 => some (r37, m)))
set_option maxRecDepth 100000 in
set_option maxHeartbeats 4000000 in
theorem kH_of (G : xG)   (z : xM) (m : xM) (v1 : Int32) (v2 : Int32) : ∀ a, fH_of  v1 v2 m = some a → xCt G yyH_of [.ref (xa G 81), .int v1, .int v2] (m, z) (some (.int a.1)) (a.2, z) := by
  refine xR_ct (em := (emic z)) rfl (Nat.le_of_ble_eq_true rfl) ?_
  show xR G yyH_of _ 0 [(0, .ref (xa G 81)), (1, .int v1), (2, .int v2)] [] _ _
  unfold fH_of
  refine xR_aln 0 0 dH_of_0 rfl rfl ?_
  refine xR_getf 1 xcf6 0 81 (by decide) (by decide) rfl (v := .ref (xa G 77)) rfl fl_RX8_10 dH_of_1 ?_
  refine xR_getf 4 xcf5 0 77 (by decide) (by decide) (xC_twn (t := 0) (by decide)) (v := .ref (xa G 72)) rfl fl_RX8_68 dH_of_4 ?_
  refine xR_iln 7 1 dH_of_7 rfl rfl ?_
  refine xR_callVi 8 cv_B_has ml_RX8_118 ⟨Nat.le_of_ble_eq_true rfl, Nat.le_of_ble_eq_true rfl⟩ xcf0 rfl 72 (by decide) (xC_brd (b := 0) (by decide)) [.int v1] rfl rfl (Nat.le_of_ble_eq_true rfl) dH_of_8 (kB_has G 0 (by decide) z m v1) (fun r8 => ?_)
  refine xR_ifeq 11 23 dH_of_11 (by decide) ?_ ?_
  · refine xR_aln 23 0 dH_of_23 rfl rfl ?_
    refine xR_callVic 24 cv_H_bad ml_RX8_82 ⟨Nat.le_of_ble_eq_true rfl, Nat.le_of_ble_eq_true rfl⟩ xcf6 rfl 81 (by decide) rfl [] rfl rfl (Nat.le_of_ble_eq_true rfl) dH_of_24 (kH_bad G z m) (fun r24 => ?_)
    exact xR_iret 27 rfl rfl dH_of_27
  · refine xR_iln 14 2 dH_of_14 rfl rfl ?_
    refine xR_ic 15 (0 : Int32) dH_of_15 (by decide) ?_
    refine xR_ic 16 (5 : Int32) dH_of_16 (by decide) ?_
    refine xR_callSi 17 cs_H_within ml_RX8_78 ⟨Nat.le_of_ble_eq_true rfl, Nat.le_of_ble_eq_true rfl⟩ [.int v2, .int (0 : Int32), .int (5 : Int32)] rfl rfl (Nat.le_of_ble_eq_true rfl) dH_of_17 (kH_within G (m, z) v2 (0 : Int32) (5 : Int32)) (fun r17 => ?_)
    refine xR_ifne 20 28 dH_of_20 (by decide) ?_ ?_
    · refine xR_aln 28 0 dH_of_28 rfl rfl ?_
      refine xR_getf 29 xcf6 0 81 (by decide) (by decide) rfl (v := .ref (xa G 77)) rfl fl_RX8_10 dH_of_29 ?_
      refine xR_getf 32 xcf5 0 77 (by decide) (by decide) (xC_twn (t := 0) (by decide)) (v := .ref (xa G 72)) rfl fl_RX8_68 dH_of_32 ?_
      refine xR_iln 35 1 dH_of_35 rfl rfl ?_
      refine xR_iln 36 2 dH_of_36 rfl rfl ?_
      refine xR_callVi 37 cv_B_cell ml_RX8_121 ⟨Nat.le_of_ble_eq_true rfl, Nat.le_of_ble_eq_true rfl⟩ xcf0 rfl 72 (by decide) (xC_brd (b := 0) (by decide)) [.int v1, .int v2] rfl rfl (Nat.le_of_ble_eq_true rfl) dH_of_37 (kB_cell G 0 (by decide) z m v1 v2) (fun r37 => ?_)
      exact xR_iret 40 rfl rfl dH_of_40
    · refine xR_aln 23 0 dH_of_23 rfl rfl ?_
      refine xR_callVic 24 cv_H_bad ml_RX8_82 ⟨Nat.le_of_ble_eq_true rfl, Nat.le_of_ble_eq_true rfl⟩ xcf6 rfl 81 (by decide) rfl [] rfl rfl (Nat.le_of_ble_eq_true rfl) dH_of_24 (kH_bad G z m) (fun r24 => ?_)
      exact xR_iret 27 rfl rfl dH_of_27
theorem dH_about_0 : decode (xb yyH_about) 0 = .ok (.aload_n 0, 1) := by decide +kernel
theorem dH_about_1 : decode (xb yyH_about) 1 = .ok (.getfield 10, 3) := by decide +kernel
theorem dH_about_4 : decode (xb yyH_about) 4 = .ok (.iload_n 1, 1) := by decide +kernel
theorem dH_about_5 : decode (xb yyH_about) 5 = .ok (.invokevirtual 151, 3) := by decide +kernel
theorem dH_about_8 : decode (xb yyH_about) 8 = .ok (.ifCond .eq 12, 3) := by decide +kernel
theorem dH_about_11 : decode (xb yyH_about) 11 = .ok (.iload_n 2, 1) := by decide +kernel
theorem dH_about_12 : decode (xb yyH_about) 12 = .ok (.iconst 0, 1) := by decide +kernel
theorem dH_about_13 : decode (xb yyH_about) 13 = .ok (.iconst 2, 1) := by decide +kernel
theorem dH_about_14 : decode (xb yyH_about) 14 = .ok (.invokestatic 78, 3) := by decide +kernel
theorem dH_about_17 : decode (xb yyH_about) 17 = .ok (.ifCond .ne 8, 3) := by decide +kernel
theorem dH_about_20 : decode (xb yyH_about) 20 = .ok (.aload_n 0, 1) := by decide +kernel
theorem dH_about_21 : decode (xb yyH_about) 21 = .ok (.invokevirtual 82, 3) := by decide +kernel
theorem dH_about_24 : decode (xb yyH_about) 24 = .ok (.ireturn, 1) := by decide +kernel
theorem dH_about_25 : decode (xb yyH_about) 25 = .ok (.iload_n 2, 1) := by decide +kernel
theorem dH_about_26 : decode (xb yyH_about) 26 = .ok (.ifCond .ne 16, 3) := by decide +kernel
theorem dH_about_29 : decode (xb yyH_about) 29 = .ok (.aload_n 0, 1) := by decide +kernel
theorem dH_about_30 : decode (xb yyH_about) 30 = .ok (.getfield 10, 3) := by decide +kernel
theorem dH_about_33 : decode (xb yyH_about) 33 = .ok (.getfield 110, 3) := by decide +kernel
theorem dH_about_36 : decode (xb yyH_about) 36 = .ok (.iload_n 1, 1) := by decide +kernel
theorem dH_about_37 : decode (xb yyH_about) 37 = .ok (.iconst 0, 1) := by decide +kernel
theorem dH_about_38 : decode (xb yyH_about) 38 = .ok (.invokevirtual 88, 3) := by decide +kernel
theorem dH_about_41 : decode (xb yyH_about) 41 = .ok (.ireturn, 1) := by decide +kernel
theorem dH_about_42 : decode (xb yyH_about) 42 = .ok (.iload_n 2, 1) := by decide +kernel
theorem dH_about_43 : decode (xb yyH_about) 43 = .ok (.iconst 1, 1) := by decide +kernel
theorem dH_about_44 : decode (xb yyH_about) 44 = .ok (.if_icmp .ne 17, 3) := by decide +kernel
theorem dH_about_47 : decode (xb yyH_about) 47 = .ok (.aload_n 0, 1) := by decide +kernel
theorem dH_about_48 : decode (xb yyH_about) 48 = .ok (.getfield 10, 3) := by decide +kernel
theorem dH_about_51 : decode (xb yyH_about) 51 = .ok (.getfield 68, 3) := by decide +kernel
theorem dH_about_54 : decode (xb yyH_about) 54 = .ok (.iload_n 1, 1) := by decide +kernel
theorem dH_about_55 : decode (xb yyH_about) 55 = .ok (.invokevirtual 160, 3) := by decide +kernel
theorem dH_about_58 : decode (xb yyH_about) 58 = .ok (.goto 14, 3) := by decide +kernel
theorem dH_about_61 : decode (xb yyH_about) 61 = .ok (.aload_n 0, 1) := by decide +kernel
theorem dH_about_62 : decode (xb yyH_about) 62 = .ok (.getfield 10, 3) := by decide +kernel
theorem dH_about_65 : decode (xb yyH_about) 65 = .ok (.getfield 68, 3) := by decide +kernel
theorem dH_about_68 : decode (xb yyH_about) 68 = .ok (.iload_n 1, 1) := by decide +kernel
theorem dH_about_69 : decode (xb yyH_about) 69 = .ok (.invokevirtual 173, 3) := by decide +kernel
theorem dH_about_72 : decode (xb yyH_about) 72 = .ok (.ireturn, 1) := by decide +kernel
def fH_about  (v1 : Int32) (v2 : Int32) (m : xM) : Option (Int32 × xM) := (fW_hasInstrument 0 m v1).bind fun r5 => (if r5 = 0 then (fH_bad m).bind fun r21 => some (r21.1, r21.2) else (fH_within v2 (0 : Int32) (2 : Int32)).bind fun r14 => (if r14 = 0 then (fH_bad m).bind fun r21 => some (r21.1, r21.2) else (if v2 = 0 then (fT_get 3 m v1 (0 : Int32)).bind fun r38 => some (r38, m) else (if v2 = (1 : Int32) then (fB_manyIn 0 m v1).bind fun r55 => some (r55, m) else (fB_housesIn 0 m v1).bind fun r69 => some (r69, m)))))
set_option maxRecDepth 100000 in
set_option maxHeartbeats 4000000 in
theorem kH_about (G : xG)   (z : xM) (m : xM) (v1 : Int32) (v2 : Int32) : ∀ a, fH_about  v1 v2 m = some a → xCt G yyH_about [.ref (xa G 81), .int v1, .int v2] (m, z) (some (.int a.1)) (a.2, z) := by
  refine xR_ct (em := (emic z)) rfl (Nat.le_of_ble_eq_true rfl) ?_
  show xR G yyH_about _ 0 [(0, .ref (xa G 81)), (1, .int v1), (2, .int v2)] [] _ _
  unfold fH_about
  refine xR_aln 0 0 dH_about_0 rfl rfl ?_
  refine xR_getf 1 xcf6 0 81 (by decide) (by decide) rfl (v := .ref (xa G 77)) rfl fl_RX8_10 dH_about_1 ?_
  refine xR_iln 4 1 dH_about_4 rfl rfl ?_
  refine xR_callVi 5 cv_W_hasInstrument ml_RX8_151 ⟨Nat.le_of_ble_eq_true rfl, Nat.le_of_ble_eq_true rfl⟩ xcf5 rfl 77 (by decide) (xC_twn (t := 0) (by decide)) [.int v1] rfl rfl (Nat.le_of_ble_eq_true rfl) dH_about_5 (kW_hasInstrument G 0 (by decide) z m v1) (fun r5 => ?_)
  refine xR_ifeq 8 20 dH_about_8 (by decide) ?_ ?_
  · refine xR_aln 20 0 dH_about_20 rfl rfl ?_
    refine xR_callVic 21 cv_H_bad ml_RX8_82 ⟨Nat.le_of_ble_eq_true rfl, Nat.le_of_ble_eq_true rfl⟩ xcf6 rfl 81 (by decide) rfl [] rfl rfl (Nat.le_of_ble_eq_true rfl) dH_about_21 (kH_bad G z m) (fun r21 => ?_)
    exact xR_iret 24 rfl rfl dH_about_24
  · refine xR_iln 11 2 dH_about_11 rfl rfl ?_
    refine xR_ic 12 (0 : Int32) dH_about_12 (by decide) ?_
    refine xR_ic 13 (2 : Int32) dH_about_13 (by decide) ?_
    refine xR_callSi 14 cs_H_within ml_RX8_78 ⟨Nat.le_of_ble_eq_true rfl, Nat.le_of_ble_eq_true rfl⟩ [.int v2, .int (0 : Int32), .int (2 : Int32)] rfl rfl (Nat.le_of_ble_eq_true rfl) dH_about_14 (kH_within G (m, z) v2 (0 : Int32) (2 : Int32)) (fun r14 => ?_)
    refine xR_ifne 17 25 dH_about_17 (by decide) ?_ ?_
    · refine xR_iln 25 2 dH_about_25 rfl rfl ?_
      refine xR_ifne 26 42 dH_about_26 (by decide) ?_ ?_
      · refine xR_iln 42 2 dH_about_42 rfl rfl ?_
        refine xR_ic 43 (1 : Int32) dH_about_43 (by decide) ?_
        refine xR_icne 44 61 dH_about_44 (by decide) ?_ ?_
        · refine xR_aln 61 0 dH_about_61 rfl rfl ?_
          refine xR_getf 62 xcf6 0 81 (by decide) (by decide) rfl (v := .ref (xa G 77)) rfl fl_RX8_10 dH_about_62 ?_
          refine xR_getf 65 xcf5 0 77 (by decide) (by decide) (xC_twn (t := 0) (by decide)) (v := .ref (xa G 72)) rfl fl_RX8_68 dH_about_65 ?_
          refine xR_iln 68 1 dH_about_68 rfl rfl ?_
          refine xR_callVi 69 cv_B_housesIn ml_RX8_173 ⟨Nat.le_of_ble_eq_true rfl, Nat.le_of_ble_eq_true rfl⟩ xcf0 rfl 72 (by decide) (xC_brd (b := 0) (by decide)) [.int v1] rfl rfl (Nat.le_of_ble_eq_true rfl) dH_about_69 (kB_housesIn G 0 (by decide) z m v1) (fun r69 => ?_)
          exact xR_iret 72 rfl rfl dH_about_72
        · refine xR_aln 47 0 dH_about_47 rfl rfl ?_
          refine xR_getf 48 xcf6 0 81 (by decide) (by decide) rfl (v := .ref (xa G 77)) rfl fl_RX8_10 dH_about_48 ?_
          refine xR_getf 51 xcf5 0 77 (by decide) (by decide) (xC_twn (t := 0) (by decide)) (v := .ref (xa G 72)) rfl fl_RX8_68 dH_about_51 ?_
          refine xR_iln 54 1 dH_about_54 rfl rfl ?_
          refine xR_callVi 55 cv_B_manyIn ml_RX8_160 ⟨Nat.le_of_ble_eq_true rfl, Nat.le_of_ble_eq_true rfl⟩ xcf0 rfl 72 (by decide) (xC_brd (b := 0) (by decide)) [.int v1] rfl rfl (Nat.le_of_ble_eq_true rfl) dH_about_55 (kB_manyIn G 0 (by decide) z m v1) (fun r55 => ?_)
          refine xR_goto 58 72 dH_about_58 (by decide) ?_
          exact xR_iret 72 rfl rfl dH_about_72
      · refine xR_aln 29 0 dH_about_29 rfl rfl ?_
        refine xR_getf 30 xcf6 0 81 (by decide) (by decide) rfl (v := .ref (xa G 77)) rfl fl_RX8_10 dH_about_30 ?_
        refine xR_getf 33 xcf5 3 77 (by decide) (by decide) (xC_twn (t := 0) (by decide)) (v := .ref (xa G 39)) rfl fl_RX8_110 dH_about_33 ?_
        refine xR_iln 36 1 dH_about_36 rfl rfl ?_
        refine xR_ic 37 (0 : Int32) dH_about_37 (by decide) ?_
        refine xR_callVi 38 cv_T_get ml_RX8_88 ⟨Nat.le_of_ble_eq_true rfl, Nat.le_of_ble_eq_true rfl⟩ xcf3 rfl 39 (by decide) (xC_tab (t := 3) (by decide)) [.int v1, .int (0 : Int32)] rfl rfl (Nat.le_of_ble_eq_true rfl) dH_about_38 (kT_get G 3 (by decide) z m v1 (0 : Int32)) (fun r38 => ?_)
        exact xR_iret 41 rfl rfl dH_about_41
    · refine xR_aln 20 0 dH_about_20 rfl rfl ?_
      refine xR_callVic 21 cv_H_bad ml_RX8_82 ⟨Nat.le_of_ble_eq_true rfl, Nat.le_of_ble_eq_true rfl⟩ xcf6 rfl 81 (by decide) rfl [] rfl rfl (Nat.le_of_ble_eq_true rfl) dH_about_21 (kH_bad G z m) (fun r21 => ?_)
      exact xR_iret 24 rfl rfl dH_about_24
theorem dH_sounds_0 : decode (xb yyH_sounds) 0 = .ok (.aload_n 0, 1) := by decide +kernel
theorem dH_sounds_1 : decode (xb yyH_sounds) 1 = .ok (.getfield 10, 3) := by decide +kernel
theorem dH_sounds_4 : decode (xb yyH_sounds) 4 = .ok (.getfield 68, 3) := by decide +kernel
theorem dH_sounds_7 : decode (xb yyH_sounds) 7 = .ok (.iload_n 1, 1) := by decide +kernel
theorem dH_sounds_8 : decode (xb yyH_sounds) 8 = .ok (.invokevirtual 118, 3) := by decide +kernel
theorem dH_sounds_11 : decode (xb yyH_sounds) 11 = .ok (.ifCond .eq 10, 3) := by decide +kernel
theorem dH_sounds_14 : decode (xb yyH_sounds) 14 = .ok (.iload_n 2, 1) := by decide +kernel
theorem dH_sounds_15 : decode (xb yyH_sounds) 15 = .ok (.invokestatic 176, 3) := by decide +kernel
theorem dH_sounds_18 : decode (xb yyH_sounds) 18 = .ok (.ifCond .ne 8, 3) := by decide +kernel
theorem dH_sounds_21 : decode (xb yyH_sounds) 21 = .ok (.aload_n 0, 1) := by decide +kernel
theorem dH_sounds_22 : decode (xb yyH_sounds) 22 = .ok (.invokevirtual 82, 3) := by decide +kernel
theorem dH_sounds_25 : decode (xb yyH_sounds) 25 = .ok (.ireturn, 1) := by decide +kernel
theorem dH_sounds_26 : decode (xb yyH_sounds) 26 = .ok (.aload_n 0, 1) := by decide +kernel
theorem dH_sounds_27 : decode (xb yyH_sounds) 27 = .ok (.getfield 10, 3) := by decide +kernel
theorem dH_sounds_30 : decode (xb yyH_sounds) 30 = .ok (.getfield 68, 3) := by decide +kernel
theorem dH_sounds_33 : decode (xb yyH_sounds) 33 = .ok (.iload_n 1, 1) := by decide +kernel
theorem dH_sounds_34 : decode (xb yyH_sounds) 34 = .ok (.iload_n 2, 1) := by decide +kernel
theorem dH_sounds_35 : decode (xb yyH_sounds) 35 = .ok (.invokevirtual 179, 3) := by decide +kernel
theorem dH_sounds_38 : decode (xb yyH_sounds) 38 = .ok (.ireturn, 1) := by decide +kernel
def fH_sounds  (v1 : Int32) (v2 : Int32) (m : xM) : Option (Int32 × xM) := (fB_has 0 m v1).bind fun r8 => (if r8 = 0 then (fH_bad m).bind fun r22 => some (r22.1, r22.2) else (fH_isString v2).bind fun r15 => (if r15 = 0 then (fH_bad m).bind fun r22 => some (r22.1, r22.2) else (fB_soundOf 0 m v1 v2).bind fun r35 => some (r35, m)))
set_option maxRecDepth 100000 in
set_option maxHeartbeats 4000000 in
theorem kH_sounds (G : xG)   (z : xM) (m : xM) (v1 : Int32) (v2 : Int32) : ∀ a, fH_sounds  v1 v2 m = some a → xCt G yyH_sounds [.ref (xa G 81), .int v1, .int v2] (m, z) (some (.int a.1)) (a.2, z) := by
  refine xR_ct (em := (emic z)) rfl (Nat.le_of_ble_eq_true rfl) ?_
  show xR G yyH_sounds _ 0 [(0, .ref (xa G 81)), (1, .int v1), (2, .int v2)] [] _ _
  unfold fH_sounds
  refine xR_aln 0 0 dH_sounds_0 rfl rfl ?_
  refine xR_getf 1 xcf6 0 81 (by decide) (by decide) rfl (v := .ref (xa G 77)) rfl fl_RX8_10 dH_sounds_1 ?_
  refine xR_getf 4 xcf5 0 77 (by decide) (by decide) (xC_twn (t := 0) (by decide)) (v := .ref (xa G 72)) rfl fl_RX8_68 dH_sounds_4 ?_
  refine xR_iln 7 1 dH_sounds_7 rfl rfl ?_
  refine xR_callVi 8 cv_B_has ml_RX8_118 ⟨Nat.le_of_ble_eq_true rfl, Nat.le_of_ble_eq_true rfl⟩ xcf0 rfl 72 (by decide) (xC_brd (b := 0) (by decide)) [.int v1] rfl rfl (Nat.le_of_ble_eq_true rfl) dH_sounds_8 (kB_has G 0 (by decide) z m v1) (fun r8 => ?_)
  refine xR_ifeq 11 21 dH_sounds_11 (by decide) ?_ ?_
  · refine xR_aln 21 0 dH_sounds_21 rfl rfl ?_
    refine xR_callVic 22 cv_H_bad ml_RX8_82 ⟨Nat.le_of_ble_eq_true rfl, Nat.le_of_ble_eq_true rfl⟩ xcf6 rfl 81 (by decide) rfl [] rfl rfl (Nat.le_of_ble_eq_true rfl) dH_sounds_22 (kH_bad G z m) (fun r22 => ?_)
    exact xR_iret 25 rfl rfl dH_sounds_25
  · refine xR_iln 14 2 dH_sounds_14 rfl rfl ?_
    refine xR_callSi 15 cs_H_isString ml_RX8_176 ⟨Nat.le_of_ble_eq_true rfl, Nat.le_of_ble_eq_true rfl⟩ [.int v2] rfl rfl (Nat.le_of_ble_eq_true rfl) dH_sounds_15 (kH_isString G (m, z) v2) (fun r15 => ?_)
    refine xR_ifne 18 26 dH_sounds_18 (by decide) ?_ ?_
    · refine xR_aln 26 0 dH_sounds_26 rfl rfl ?_
      refine xR_getf 27 xcf6 0 81 (by decide) (by decide) rfl (v := .ref (xa G 77)) rfl fl_RX8_10 dH_sounds_27 ?_
      refine xR_getf 30 xcf5 0 77 (by decide) (by decide) (xC_twn (t := 0) (by decide)) (v := .ref (xa G 72)) rfl fl_RX8_68 dH_sounds_30 ?_
      refine xR_iln 33 1 dH_sounds_33 rfl rfl ?_
      refine xR_iln 34 2 dH_sounds_34 rfl rfl ?_
      refine xR_callVi 35 cv_B_soundOf ml_RX8_179 ⟨Nat.le_of_ble_eq_true rfl, Nat.le_of_ble_eq_true rfl⟩ xcf0 rfl 72 (by decide) (xC_brd (b := 0) (by decide)) [.int v1, .int v2] rfl rfl (Nat.le_of_ble_eq_true rfl) dH_sounds_35 (kB_soundOf G 0 (by decide) z m v1 v2) (fun r35 => ?_)
      exact xR_iret 38 rfl rfl dH_sounds_38
    · refine xR_aln 21 0 dH_sounds_21 rfl rfl ?_
      refine xR_callVic 22 cv_H_bad ml_RX8_82 ⟨Nat.le_of_ble_eq_true rfl, Nat.le_of_ble_eq_true rfl⟩ xcf6 rfl 81 (by decide) rfl [] rfl rfl (Nat.le_of_ble_eq_true rfl) dH_sounds_22 (kH_bad G z m) (fun r22 => ?_)
      exact xR_iret 25 rfl rfl dH_sounds_25
theorem dH_plays_0 : decode (xb yyH_plays) 0 = .ok (.aload_n 0, 1) := by decide +kernel
theorem dH_plays_1 : decode (xb yyH_plays) 1 = .ok (.getfield 10, 3) := by decide +kernel
theorem dH_plays_4 : decode (xb yyH_plays) 4 = .ok (.iload_n 1, 1) := by decide +kernel
theorem dH_plays_5 : decode (xb yyH_plays) 5 = .ok (.invokevirtual 151, 3) := by decide +kernel
theorem dH_plays_8 : decode (xb yyH_plays) 8 = .ok (.ifCond .eq 10, 3) := by decide +kernel
theorem dH_plays_11 : decode (xb yyH_plays) 11 = .ok (.iload_n 2, 1) := by decide +kernel
theorem dH_plays_12 : decode (xb yyH_plays) 12 = .ok (.invokestatic 176, 3) := by decide +kernel
theorem dH_plays_15 : decode (xb yyH_plays) 15 = .ok (.ifCond .ne 8, 3) := by decide +kernel
theorem dH_plays_18 : decode (xb yyH_plays) 18 = .ok (.aload_n 0, 1) := by decide +kernel
theorem dH_plays_19 : decode (xb yyH_plays) 19 = .ok (.invokevirtual 82, 3) := by decide +kernel
theorem dH_plays_22 : decode (xb yyH_plays) 22 = .ok (.ireturn, 1) := by decide +kernel
theorem dH_plays_23 : decode (xb yyH_plays) 23 = .ok (.aload_n 0, 1) := by decide +kernel
theorem dH_plays_24 : decode (xb yyH_plays) 24 = .ok (.getfield 10, 3) := by decide +kernel
theorem dH_plays_27 : decode (xb yyH_plays) 27 = .ok (.iload_n 1, 1) := by decide +kernel
theorem dH_plays_28 : decode (xb yyH_plays) 28 = .ok (.iload_n 2, 1) := by decide +kernel
theorem dH_plays_29 : decode (xb yyH_plays) 29 = .ok (.invokevirtual 182, 3) := by decide +kernel
theorem dH_plays_32 : decode (xb yyH_plays) 32 = .ok (.ireturn, 1) := by decide +kernel
def fH_plays  (v1 : Int32) (v2 : Int32) (m : xM) : Option (Int32 × xM) := (fW_hasInstrument 0 m v1).bind fun r5 => (if r5 = 0 then (fH_bad m).bind fun r19 => some (r19.1, r19.2) else (fH_isString v2).bind fun r12 => (if r12 = 0 then (fH_bad m).bind fun r19 => some (r19.1, r19.2) else (fW_playOf 0 m v1 v2).bind fun r29 => some (r29, m)))
set_option maxRecDepth 100000 in
set_option maxHeartbeats 4000000 in
theorem kH_plays (G : xG)   (z : xM) (m : xM) (v1 : Int32) (v2 : Int32) : ∀ a, fH_plays  v1 v2 m = some a → xCt G yyH_plays [.ref (xa G 81), .int v1, .int v2] (m, z) (some (.int a.1)) (a.2, z) := by
  refine xR_ct (em := (emic z)) rfl (Nat.le_of_ble_eq_true rfl) ?_
  show xR G yyH_plays _ 0 [(0, .ref (xa G 81)), (1, .int v1), (2, .int v2)] [] _ _
  unfold fH_plays
  refine xR_aln 0 0 dH_plays_0 rfl rfl ?_
  refine xR_getf 1 xcf6 0 81 (by decide) (by decide) rfl (v := .ref (xa G 77)) rfl fl_RX8_10 dH_plays_1 ?_
  refine xR_iln 4 1 dH_plays_4 rfl rfl ?_
  refine xR_callVi 5 cv_W_hasInstrument ml_RX8_151 ⟨Nat.le_of_ble_eq_true rfl, Nat.le_of_ble_eq_true rfl⟩ xcf5 rfl 77 (by decide) (xC_twn (t := 0) (by decide)) [.int v1] rfl rfl (Nat.le_of_ble_eq_true rfl) dH_plays_5 (kW_hasInstrument G 0 (by decide) z m v1) (fun r5 => ?_)
  refine xR_ifeq 8 18 dH_plays_8 (by decide) ?_ ?_
  · refine xR_aln 18 0 dH_plays_18 rfl rfl ?_
    refine xR_callVic 19 cv_H_bad ml_RX8_82 ⟨Nat.le_of_ble_eq_true rfl, Nat.le_of_ble_eq_true rfl⟩ xcf6 rfl 81 (by decide) rfl [] rfl rfl (Nat.le_of_ble_eq_true rfl) dH_plays_19 (kH_bad G z m) (fun r19 => ?_)
    exact xR_iret 22 rfl rfl dH_plays_22
  · refine xR_iln 11 2 dH_plays_11 rfl rfl ?_
    refine xR_callSi 12 cs_H_isString ml_RX8_176 ⟨Nat.le_of_ble_eq_true rfl, Nat.le_of_ble_eq_true rfl⟩ [.int v2] rfl rfl (Nat.le_of_ble_eq_true rfl) dH_plays_12 (kH_isString G (m, z) v2) (fun r12 => ?_)
    refine xR_ifne 15 23 dH_plays_15 (by decide) ?_ ?_
    · refine xR_aln 23 0 dH_plays_23 rfl rfl ?_
      refine xR_getf 24 xcf6 0 81 (by decide) (by decide) rfl (v := .ref (xa G 77)) rfl fl_RX8_10 dH_plays_24 ?_
      refine xR_iln 27 1 dH_plays_27 rfl rfl ?_
      refine xR_iln 28 2 dH_plays_28 rfl rfl ?_
      refine xR_callVi 29 cv_W_playOf ml_RX8_182 ⟨Nat.le_of_ble_eq_true rfl, Nat.le_of_ble_eq_true rfl⟩ xcf5 rfl 77 (by decide) (xC_twn (t := 0) (by decide)) [.int v1, .int v2] rfl rfl (Nat.le_of_ble_eq_true rfl) dH_plays_29 (kW_playOf G 0 (by decide) z m v1 v2) (fun r29 => ?_)
      exact xR_iret 32 rfl rfl dH_plays_32
    · refine xR_aln 18 0 dH_plays_18 rfl rfl ?_
      refine xR_callVic 19 cv_H_bad ml_RX8_82 ⟨Nat.le_of_ble_eq_true rfl, Nat.le_of_ble_eq_true rfl⟩ xcf6 rfl 81 (by decide) rfl [] rfl rfl (Nat.le_of_ble_eq_true rfl) dH_plays_19 (kH_bad G z m) (fun r19 => ?_)
      exact xR_iret 22 rfl rfl dH_plays_22
theorem dH_then_0 : decode (xb yyH_then) 0 = .ok (.aload_n 0, 1) := by decide +kernel
theorem dH_then_1 : decode (xb yyH_then) 1 = .ok (.getfield 10, 3) := by decide +kernel
theorem dH_then_4 : decode (xb yyH_then) 4 = .ok (.iload_n 1, 1) := by decide +kernel
theorem dH_then_5 : decode (xb yyH_then) 5 = .ok (.invokevirtual 151, 3) := by decide +kernel
theorem dH_then_8 : decode (xb yyH_then) 8 = .ok (.ifCond .eq 20, 3) := by decide +kernel
theorem dH_then_11 : decode (xb yyH_then) 11 = .ok (.iload_n 2, 1) := by decide +kernel
theorem dH_then_12 : decode (xb yyH_then) 12 = .ok (.invokestatic 176, 3) := by decide +kernel
theorem dH_then_15 : decode (xb yyH_then) 15 = .ok (.ifCond .eq 13, 3) := by decide +kernel
theorem dH_then_18 : decode (xb yyH_then) 18 = .ok (.iload_n 3, 1) := by decide +kernel
theorem dH_then_19 : decode (xb yyH_then) 19 = .ok (.iconst 0, 1) := by decide +kernel
theorem dH_then_20 : decode (xb yyH_then) 20 = .ok (.bipush 60, 2) := by decide +kernel
theorem dH_then_22 : decode (xb yyH_then) 22 = .ok (.invokestatic 78, 3) := by decide +kernel
theorem dH_then_25 : decode (xb yyH_then) 25 = .ok (.ifCond .ne 8, 3) := by decide +kernel
theorem dH_then_28 : decode (xb yyH_then) 28 = .ok (.aload_n 0, 1) := by decide +kernel
theorem dH_then_29 : decode (xb yyH_then) 29 = .ok (.invokevirtual 82, 3) := by decide +kernel
theorem dH_then_32 : decode (xb yyH_then) 32 = .ok (.ireturn, 1) := by decide +kernel
theorem dH_then_33 : decode (xb yyH_then) 33 = .ok (.aload_n 0, 1) := by decide +kernel
theorem dH_then_34 : decode (xb yyH_then) 34 = .ok (.getfield 25, 3) := by decide +kernel
theorem dH_then_37 : decode (xb yyH_then) 37 = .ok (.aload_n 0, 1) := by decide +kernel
theorem dH_then_38 : decode (xb yyH_then) 38 = .ok (.getfield 10, 3) := by decide +kernel
theorem dH_then_41 : decode (xb yyH_then) 41 = .ok (.getfield 68, 3) := by decide +kernel
theorem dH_then_44 : decode (xb yyH_then) 44 = .ok (.invokevirtual 185, 3) := by decide +kernel
theorem dH_then_47 : decode (xb yyH_then) 47 = .ok (.iconst 0, 1) := by decide +kernel
theorem dH_then_48 : decode (xb yyH_then) 48 = .ok (.istore 4, 2) := by decide +kernel
theorem dH_then_50 : decode (xb yyH_then) 50 = .ok (.iload 4, 2) := by decide +kernel
theorem dH_then_52 : decode (xb yyH_then) 52 = .ok (.iload_n 3, 1) := by decide +kernel
theorem dH_then_53 : decode (xb yyH_then) 53 = .ok (.if_icmp .ge 23, 3) := by decide +kernel
theorem dH_then_56 : decode (xb yyH_then) 56 = .ok (.aload_n 0, 1) := by decide +kernel
theorem dH_then_57 : decode (xb yyH_then) 57 = .ok (.getfield 25, 3) := by decide +kernel
theorem dH_then_60 : decode (xb yyH_then) 60 = .ok (.aload_n 0, 1) := by decide +kernel
theorem dH_then_61 : decode (xb yyH_then) 61 = .ok (.getfield 10, 3) := by decide +kernel
theorem dH_then_64 : decode (xb yyH_then) 64 = .ok (.getfield 85, 3) := by decide +kernel
theorem dH_then_67 : decode (xb yyH_then) 67 = .ok (.invokevirtual 188, 3) := by decide +kernel
theorem dH_then_70 : decode (xb yyH_then) 70 = .ok (.iinc 4 1, 3) := by decide +kernel
theorem dH_then_73 : decode (xb yyH_then) 73 = .ok (.goto (-23), 3) := by decide +kernel
theorem dH_then_76 : decode (xb yyH_then) 76 = .ok (.aload_n 0, 1) := by decide +kernel
theorem dH_then_77 : decode (xb yyH_then) 77 = .ok (.getfield 10, 3) := by decide +kernel
theorem dH_then_80 : decode (xb yyH_then) 80 = .ok (.aload_n 0, 1) := by decide +kernel
theorem dH_then_81 : decode (xb yyH_then) 81 = .ok (.getfield 25, 3) := by decide +kernel
theorem dH_then_84 : decode (xb yyH_then) 84 = .ok (.iload_n 1, 1) := by decide +kernel
theorem dH_then_85 : decode (xb yyH_then) 85 = .ok (.iload_n 2, 1) := by decide +kernel
theorem dH_then_86 : decode (xb yyH_then) 86 = .ok (.iconst 0, 1) := by decide +kernel
theorem dH_then_87 : decode (xb yyH_then) 87 = .ok (.invokevirtual 192, 3) := by decide +kernel
theorem dH_then_90 : decode (xb yyH_then) 90 = .ok (.ireturn, 1) := by decide +kernel
def fH_then_l50  : Nat → Int32 → Int32 → Int32 → Int32 → xM → Option (Int32 × xM)
  | 0, _, _, _, _, _ => none
  | n + 1, v1, v2, v3, v4, m => (if v3 ≤ v4 then (fW_playOn 0 4 m v1 v2 (0 : Int32)).bind fun r87 => some (r87, m) else (fB_passYear 4 2 m).bind fun r67 => fH_then_l50 n v1 v2 v3 (v4 + 1) r67)
def fH_then  (v1 : Int32) (v2 : Int32) (v3 : Int32) (m : xM) : Option (Int32 × xM) := (fW_hasInstrument 0 m v1).bind fun r5 => (if r5 = 0 then (fH_bad m).bind fun r29 => some (r29.1, r29.2) else (fH_isString v2).bind fun r12 => (if r12 = 0 then (fH_bad m).bind fun r29 => some (r29.1, r29.2) else (fH_within v3 (0 : Int32) (60 : Int32)).bind fun r22 => (if r22 = 0 then (fH_bad m).bind fun r29 => some (r29.1, r29.2) else (fB_become 4 0 m).bind fun r44 => fH_then_l50 xfu v1 v2 v3 (0 : Int32) r44)))
set_option maxRecDepth 100000 in
set_option maxHeartbeats 4000000 in
theorem kH_then_l50 (G : xG)   (z : xM)    : ∀ (n : Nat) (v1 : Int32) (v2 : Int32) (v3 : Int32) (v4 : Int32) (m : xM), xR G yyH_then (emic z) 50 [(0, .ref (xa G 81)), (1, .int v1), (2, .int v2), (3, .int v3), (4, .int v4)] [] (m, z) (fH_then_l50  n v1 v2 v3 v4 m) := by
  intro n
  induction n with
  | zero =>
    intro v1 v2 v3 v4 m
    rw [fH_then_l50]
    exact xR_none
  | succ n ih =>
    intro v1 v2 v3 v4 m
    rw [fH_then_l50]
    refine xR_il 50 4 dH_then_50 rfl ?_
    refine xR_iln 52 3 dH_then_52 rfl rfl ?_
    refine xR_icge 53 76 dH_then_53 (by decide) ?_ ?_
    · refine xR_aln 76 0 dH_then_76 rfl rfl ?_
      refine xR_getf 77 xcf6 0 81 (by decide) (by decide) rfl (v := .ref (xa G 77)) rfl fl_RX8_10 dH_then_77 ?_
      refine xR_aln 80 0 dH_then_80 rfl rfl ?_
      refine xR_getf 81 xcf6 3 81 (by decide) (by decide) rfl (v := .ref (xa G 76)) rfl fl_RX8_25 dH_then_81 ?_
      refine xR_iln 84 1 dH_then_84 rfl rfl ?_
      refine xR_iln 85 2 dH_then_85 rfl rfl ?_
      refine xR_ic 86 (0 : Int32) dH_then_86 (by decide) ?_
      refine xR_callVi 87 cv_W_playOn ml_RX8_192 ⟨Nat.le_of_ble_eq_true rfl, Nat.le_of_ble_eq_true rfl⟩ xcf5 rfl 77 (by decide) (xC_twn (t := 0) (by decide)) [.ref (xa G 76), .int v1, .int v2, .int (0 : Int32)] rfl rfl (Nat.le_of_ble_eq_true rfl) dH_then_87 (kW_playOn G 0 4 (by decide) (by decide) z m v1 v2 (0 : Int32)) (fun r87 => ?_)
      exact xR_iret 90 rfl rfl dH_then_90
    · refine xR_aln 56 0 dH_then_56 rfl rfl ?_
      refine xR_getf 57 xcf6 3 81 (by decide) (by decide) rfl (v := .ref (xa G 76)) rfl fl_RX8_25 dH_then_57 ?_
      refine xR_aln 60 0 dH_then_60 rfl rfl ?_
      refine xR_getf 61 xcf6 0 81 (by decide) (by decide) rfl (v := .ref (xa G 77)) rfl fl_RX8_10 dH_then_61 ?_
      refine xR_getf 64 xcf5 2 77 (by decide) (by decide) (xC_twn (t := 0) (by decide)) (v := .ref (xa G 38)) rfl fl_RX8_85 dH_then_64 ?_
      refine xR_callVvc 67 cv_B_passYear ml_RX8_188 ⟨Nat.le_of_ble_eq_true rfl, Nat.le_of_ble_eq_true rfl⟩ xcf0 rfl 76 (by decide) (xC_brd (b := 4) (by decide)) [.ref (xa G 38)] rfl rfl (Nat.le_of_ble_eq_true rfl) dH_then_67 (kB_passYear G 4 2 (by decide) (by decide) z m) (fun r67 => ?_)
      refine xR_iinc 70 4 (v4 + 1) ([(4, .int (v4 + 1)), (0, .ref (xa G 81)), (1, .int v1), (2, .int v2), (3, .int v3)]) dH_then_70 rfl rfl (by decide) rfl ?_
      refine xR_goto 73 50 dH_then_73 (by decide) ?_
      exact xR_sub [1, 2, 3, 4, 0] rfl (ih v1 v2 v3 (v4 + 1) r67)
set_option maxRecDepth 100000 in
set_option maxHeartbeats 4000000 in
theorem kH_then (G : xG)   (z : xM) (m : xM) (v1 : Int32) (v2 : Int32) (v3 : Int32) : ∀ a, fH_then  v1 v2 v3 m = some a → xCt G yyH_then [.ref (xa G 81), .int v1, .int v2, .int v3] (m, z) (some (.int a.1)) (a.2, z) := by
  refine xR_ct (em := (emic z)) rfl (Nat.le_of_ble_eq_true rfl) ?_
  show xR G yyH_then _ 0 [(0, .ref (xa G 81)), (1, .int v1), (2, .int v2), (3, .int v3)] [] _ _
  unfold fH_then
  refine xR_aln 0 0 dH_then_0 rfl rfl ?_
  refine xR_getf 1 xcf6 0 81 (by decide) (by decide) rfl (v := .ref (xa G 77)) rfl fl_RX8_10 dH_then_1 ?_
  refine xR_iln 4 1 dH_then_4 rfl rfl ?_
  refine xR_callVi 5 cv_W_hasInstrument ml_RX8_151 ⟨Nat.le_of_ble_eq_true rfl, Nat.le_of_ble_eq_true rfl⟩ xcf5 rfl 77 (by decide) (xC_twn (t := 0) (by decide)) [.int v1] rfl rfl (Nat.le_of_ble_eq_true rfl) dH_then_5 (kW_hasInstrument G 0 (by decide) z m v1) (fun r5 => ?_)
  refine xR_ifeq 8 28 dH_then_8 (by decide) ?_ ?_
  · refine xR_aln 28 0 dH_then_28 rfl rfl ?_
    refine xR_callVic 29 cv_H_bad ml_RX8_82 ⟨Nat.le_of_ble_eq_true rfl, Nat.le_of_ble_eq_true rfl⟩ xcf6 rfl 81 (by decide) rfl [] rfl rfl (Nat.le_of_ble_eq_true rfl) dH_then_29 (kH_bad G z m) (fun r29 => ?_)
    exact xR_iret 32 rfl rfl dH_then_32
  · refine xR_iln 11 2 dH_then_11 rfl rfl ?_
    refine xR_callSi 12 cs_H_isString ml_RX8_176 ⟨Nat.le_of_ble_eq_true rfl, Nat.le_of_ble_eq_true rfl⟩ [.int v2] rfl rfl (Nat.le_of_ble_eq_true rfl) dH_then_12 (kH_isString G (m, z) v2) (fun r12 => ?_)
    refine xR_ifeq 15 28 dH_then_15 (by decide) ?_ ?_
    · refine xR_aln 28 0 dH_then_28 rfl rfl ?_
      refine xR_callVic 29 cv_H_bad ml_RX8_82 ⟨Nat.le_of_ble_eq_true rfl, Nat.le_of_ble_eq_true rfl⟩ xcf6 rfl 81 (by decide) rfl [] rfl rfl (Nat.le_of_ble_eq_true rfl) dH_then_29 (kH_bad G z m) (fun r29 => ?_)
      exact xR_iret 32 rfl rfl dH_then_32
    · refine xR_iln 18 3 dH_then_18 rfl rfl ?_
      refine xR_ic 19 (0 : Int32) dH_then_19 (by decide) ?_
      refine xR_bp 20 (60 : Int32) dH_then_20 (by decide) ?_
      refine xR_callSi 22 cs_H_within ml_RX8_78 ⟨Nat.le_of_ble_eq_true rfl, Nat.le_of_ble_eq_true rfl⟩ [.int v3, .int (0 : Int32), .int (60 : Int32)] rfl rfl (Nat.le_of_ble_eq_true rfl) dH_then_22 (kH_within G (m, z) v3 (0 : Int32) (60 : Int32)) (fun r22 => ?_)
      refine xR_ifne 25 33 dH_then_25 (by decide) ?_ ?_
      · refine xR_aln 33 0 dH_then_33 rfl rfl ?_
        refine xR_getf 34 xcf6 3 81 (by decide) (by decide) rfl (v := .ref (xa G 76)) rfl fl_RX8_25 dH_then_34 ?_
        refine xR_aln 37 0 dH_then_37 rfl rfl ?_
        refine xR_getf 38 xcf6 0 81 (by decide) (by decide) rfl (v := .ref (xa G 77)) rfl fl_RX8_10 dH_then_38 ?_
        refine xR_getf 41 xcf5 0 77 (by decide) (by decide) (xC_twn (t := 0) (by decide)) (v := .ref (xa G 72)) rfl fl_RX8_68 dH_then_41 ?_
        refine xR_callVvc 44 cv_B_become ml_RX8_185 ⟨Nat.le_of_ble_eq_true rfl, Nat.le_of_ble_eq_true rfl⟩ xcf0 rfl 76 (by decide) (xC_brd (b := 4) (by decide)) [.ref (xa G 72)] rfl rfl (Nat.le_of_ble_eq_true rfl) dH_then_44 (kB_become G 4 0 (by decide) (by decide) z m) (fun r44 => ?_)
        refine xR_ic 47 (0 : Int32) dH_then_47 (by decide) ?_
        refine xR_is 48 ([(4, .int (0 : Int32)), (0, .ref (xa G 81)), (1, .int v1), (2, .int v2), (3, .int v3)]) dH_then_48 (by decide) rfl ?_
        exact xR_sub [1, 2, 3, 4, 0] rfl (kH_then_l50 G z xfu v1 v2 v3 (0 : Int32) r44)
      · refine xR_aln 28 0 dH_then_28 rfl rfl ?_
        refine xR_callVic 29 cv_H_bad ml_RX8_82 ⟨Nat.le_of_ble_eq_true rfl, Nat.le_of_ble_eq_true rfl⟩ xcf6 rfl 81 (by decide) rfl [] rfl rfl (Nat.le_of_ble_eq_true rfl) dH_then_29 (kH_bad G z m) (fun r29 => ?_)
        exact xR_iret 32 rfl rfl dH_then_32
theorem dH_waits_0 : decode (xb yyH_waits) 0 = .ok (.aload_n 0, 1) := by decide +kernel
theorem dH_waits_1 : decode (xb yyH_waits) 1 = .ok (.getfield 10, 3) := by decide +kernel
theorem dH_waits_4 : decode (xb yyH_waits) 4 = .ok (.getfield 68, 3) := by decide +kernel
theorem dH_waits_7 : decode (xb yyH_waits) 7 = .ok (.iload_n 1, 1) := by decide +kernel
theorem dH_waits_8 : decode (xb yyH_waits) 8 = .ok (.invokevirtual 118, 3) := by decide +kernel
theorem dH_waits_11 : decode (xb yyH_waits) 11 = .ok (.ifCond .eq 20, 3) := by decide +kernel
theorem dH_waits_14 : decode (xb yyH_waits) 14 = .ok (.iload_n 2, 1) := by decide +kernel
theorem dH_waits_15 : decode (xb yyH_waits) 15 = .ok (.invokestatic 176, 3) := by decide +kernel
theorem dH_waits_18 : decode (xb yyH_waits) 18 = .ok (.ifCond .eq 13, 3) := by decide +kernel
theorem dH_waits_21 : decode (xb yyH_waits) 21 = .ok (.iload_n 3, 1) := by decide +kernel
theorem dH_waits_22 : decode (xb yyH_waits) 22 = .ok (.iconst 1, 1) := by decide +kernel
theorem dH_waits_23 : decode (xb yyH_waits) 23 = .ok (.bipush 60, 2) := by decide +kernel
theorem dH_waits_25 : decode (xb yyH_waits) 25 = .ok (.invokestatic 78, 3) := by decide +kernel
theorem dH_waits_28 : decode (xb yyH_waits) 28 = .ok (.ifCond .ne 8, 3) := by decide +kernel
theorem dH_waits_31 : decode (xb yyH_waits) 31 = .ok (.aload_n 0, 1) := by decide +kernel
theorem dH_waits_32 : decode (xb yyH_waits) 32 = .ok (.invokevirtual 82, 3) := by decide +kernel
theorem dH_waits_35 : decode (xb yyH_waits) 35 = .ok (.ireturn, 1) := by decide +kernel
theorem dH_waits_36 : decode (xb yyH_waits) 36 = .ok (.aload_n 0, 1) := by decide +kernel
theorem dH_waits_37 : decode (xb yyH_waits) 37 = .ok (.getfield 25, 3) := by decide +kernel
theorem dH_waits_40 : decode (xb yyH_waits) 40 = .ok (.aload_n 0, 1) := by decide +kernel
theorem dH_waits_41 : decode (xb yyH_waits) 41 = .ok (.getfield 10, 3) := by decide +kernel
theorem dH_waits_44 : decode (xb yyH_waits) 44 = .ok (.getfield 68, 3) := by decide +kernel
theorem dH_waits_47 : decode (xb yyH_waits) 47 = .ok (.invokevirtual 185, 3) := by decide +kernel
theorem dH_waits_50 : decode (xb yyH_waits) 50 = .ok (.iconst 0, 1) := by decide +kernel
theorem dH_waits_51 : decode (xb yyH_waits) 51 = .ok (.istore 4, 2) := by decide +kernel
theorem dH_waits_53 : decode (xb yyH_waits) 53 = .ok (.iload 4, 2) := by decide +kernel
theorem dH_waits_55 : decode (xb yyH_waits) 55 = .ok (.bipush 60, 2) := by decide +kernel
theorem dH_waits_57 : decode (xb yyH_waits) 57 = .ok (.if_icmp .gt 39, 3) := by decide +kernel
theorem dH_waits_60 : decode (xb yyH_waits) 60 = .ok (.aload_n 0, 1) := by decide +kernel
theorem dH_waits_61 : decode (xb yyH_waits) 61 = .ok (.getfield 25, 3) := by decide +kernel
theorem dH_waits_64 : decode (xb yyH_waits) 64 = .ok (.iload_n 1, 1) := by decide +kernel
theorem dH_waits_65 : decode (xb yyH_waits) 65 = .ok (.iload_n 2, 1) := by decide +kernel
theorem dH_waits_66 : decode (xb yyH_waits) 66 = .ok (.invokevirtual 179, 3) := by decide +kernel
theorem dH_waits_69 : decode (xb yyH_waits) 69 = .ok (.iload_n 3, 1) := by decide +kernel
theorem dH_waits_70 : decode (xb yyH_waits) 70 = .ok (.if_icmp .lt 6, 3) := by decide +kernel
theorem dH_waits_73 : decode (xb yyH_waits) 73 = .ok (.iload 4, 2) := by decide +kernel
theorem dH_waits_75 : decode (xb yyH_waits) 75 = .ok (.ireturn, 1) := by decide +kernel
theorem dH_waits_76 : decode (xb yyH_waits) 76 = .ok (.aload_n 0, 1) := by decide +kernel
theorem dH_waits_77 : decode (xb yyH_waits) 77 = .ok (.getfield 25, 3) := by decide +kernel
theorem dH_waits_80 : decode (xb yyH_waits) 80 = .ok (.aload_n 0, 1) := by decide +kernel
theorem dH_waits_81 : decode (xb yyH_waits) 81 = .ok (.getfield 10, 3) := by decide +kernel
theorem dH_waits_84 : decode (xb yyH_waits) 84 = .ok (.getfield 85, 3) := by decide +kernel
theorem dH_waits_87 : decode (xb yyH_waits) 87 = .ok (.invokevirtual 188, 3) := by decide +kernel
theorem dH_waits_90 : decode (xb yyH_waits) 90 = .ok (.iinc 4 1, 3) := by decide +kernel
theorem dH_waits_93 : decode (xb yyH_waits) 93 = .ok (.goto (-40), 3) := by decide +kernel
theorem dH_waits_96 : decode (xb yyH_waits) 96 = .ok (.iconst (-1), 1) := by decide +kernel
theorem dH_waits_97 : decode (xb yyH_waits) 97 = .ok (.ireturn, 1) := by decide +kernel
def fH_waits_l53  : Nat → Int32 → Int32 → Int32 → Int32 → xM → Option (Int32 × xM)
  | 0, _, _, _, _, _ => none
  | n + 1, v1, v2, v3, v4, m => (if (60 : Int32) < v4 then some ((-1 : Int32), m) else (fB_soundOf 4 m v1 v2).bind fun r66 => (if r66 < v3 then (fB_passYear 4 2 m).bind fun r87 => fH_waits_l53 n v1 v2 v3 (v4 + 1) r87 else some (v4, m)))
def fH_waits  (v1 : Int32) (v2 : Int32) (v3 : Int32) (m : xM) : Option (Int32 × xM) := (fB_has 0 m v1).bind fun r8 => (if r8 = 0 then (fH_bad m).bind fun r32 => some (r32.1, r32.2) else (fH_isString v2).bind fun r15 => (if r15 = 0 then (fH_bad m).bind fun r32 => some (r32.1, r32.2) else (fH_within v3 (1 : Int32) (60 : Int32)).bind fun r25 => (if r25 = 0 then (fH_bad m).bind fun r32 => some (r32.1, r32.2) else (fB_become 4 0 m).bind fun r47 => fH_waits_l53 xfu v1 v2 v3 (0 : Int32) r47)))
set_option maxRecDepth 100000 in
set_option maxHeartbeats 4000000 in
theorem kH_waits_l53 (G : xG)   (z : xM)    : ∀ (n : Nat) (v1 : Int32) (v2 : Int32) (v3 : Int32) (v4 : Int32) (m : xM), xR G yyH_waits (emic z) 53 [(0, .ref (xa G 81)), (1, .int v1), (2, .int v2), (3, .int v3), (4, .int v4)] [] (m, z) (fH_waits_l53  n v1 v2 v3 v4 m) := by
  intro n
  induction n with
  | zero =>
    intro v1 v2 v3 v4 m
    rw [fH_waits_l53]
    exact xR_none
  | succ n ih =>
    intro v1 v2 v3 v4 m
    rw [fH_waits_l53]
    refine xR_il 53 4 dH_waits_53 rfl ?_
    refine xR_bp 55 (60 : Int32) dH_waits_55 (by decide) ?_
    refine xR_icgt 57 96 dH_waits_57 (by decide) ?_ ?_
    · refine xR_ic 96 (-1 : Int32) dH_waits_96 (by decide) ?_
      exact xR_iret 97 rfl rfl dH_waits_97
    · refine xR_aln 60 0 dH_waits_60 rfl rfl ?_
      refine xR_getf 61 xcf6 3 81 (by decide) (by decide) rfl (v := .ref (xa G 76)) rfl fl_RX8_25 dH_waits_61 ?_
      refine xR_iln 64 1 dH_waits_64 rfl rfl ?_
      refine xR_iln 65 2 dH_waits_65 rfl rfl ?_
      refine xR_callVi 66 cv_B_soundOf ml_RX8_179 ⟨Nat.le_of_ble_eq_true rfl, Nat.le_of_ble_eq_true rfl⟩ xcf0 rfl 76 (by decide) (xC_brd (b := 4) (by decide)) [.int v1, .int v2] rfl rfl (Nat.le_of_ble_eq_true rfl) dH_waits_66 (kB_soundOf G 4 (by decide) z m v1 v2) (fun r66 => ?_)
      refine xR_iln 69 3 dH_waits_69 rfl rfl ?_
      refine xR_iclt 70 76 dH_waits_70 (by decide) ?_ ?_
      · refine xR_aln 76 0 dH_waits_76 rfl rfl ?_
        refine xR_getf 77 xcf6 3 81 (by decide) (by decide) rfl (v := .ref (xa G 76)) rfl fl_RX8_25 dH_waits_77 ?_
        refine xR_aln 80 0 dH_waits_80 rfl rfl ?_
        refine xR_getf 81 xcf6 0 81 (by decide) (by decide) rfl (v := .ref (xa G 77)) rfl fl_RX8_10 dH_waits_81 ?_
        refine xR_getf 84 xcf5 2 77 (by decide) (by decide) (xC_twn (t := 0) (by decide)) (v := .ref (xa G 38)) rfl fl_RX8_85 dH_waits_84 ?_
        refine xR_callVvc 87 cv_B_passYear ml_RX8_188 ⟨Nat.le_of_ble_eq_true rfl, Nat.le_of_ble_eq_true rfl⟩ xcf0 rfl 76 (by decide) (xC_brd (b := 4) (by decide)) [.ref (xa G 38)] rfl rfl (Nat.le_of_ble_eq_true rfl) dH_waits_87 (kB_passYear G 4 2 (by decide) (by decide) z m) (fun r87 => ?_)
        refine xR_iinc 90 4 (v4 + 1) ([(4, .int (v4 + 1)), (0, .ref (xa G 81)), (1, .int v1), (2, .int v2), (3, .int v3)]) dH_waits_90 rfl rfl (by decide) rfl ?_
        refine xR_goto 93 53 dH_waits_93 (by decide) ?_
        exact xR_sub [1, 2, 3, 4, 0] rfl (ih v1 v2 v3 (v4 + 1) r87)
      · refine xR_il 73 4 dH_waits_73 rfl ?_
        exact xR_iret 75 rfl rfl dH_waits_75
set_option maxRecDepth 100000 in
set_option maxHeartbeats 4000000 in
theorem kH_waits (G : xG)   (z : xM) (m : xM) (v1 : Int32) (v2 : Int32) (v3 : Int32) : ∀ a, fH_waits  v1 v2 v3 m = some a → xCt G yyH_waits [.ref (xa G 81), .int v1, .int v2, .int v3] (m, z) (some (.int a.1)) (a.2, z) := by
  refine xR_ct (em := (emic z)) rfl (Nat.le_of_ble_eq_true rfl) ?_
  show xR G yyH_waits _ 0 [(0, .ref (xa G 81)), (1, .int v1), (2, .int v2), (3, .int v3)] [] _ _
  unfold fH_waits
  refine xR_aln 0 0 dH_waits_0 rfl rfl ?_
  refine xR_getf 1 xcf6 0 81 (by decide) (by decide) rfl (v := .ref (xa G 77)) rfl fl_RX8_10 dH_waits_1 ?_
  refine xR_getf 4 xcf5 0 77 (by decide) (by decide) (xC_twn (t := 0) (by decide)) (v := .ref (xa G 72)) rfl fl_RX8_68 dH_waits_4 ?_
  refine xR_iln 7 1 dH_waits_7 rfl rfl ?_
  refine xR_callVi 8 cv_B_has ml_RX8_118 ⟨Nat.le_of_ble_eq_true rfl, Nat.le_of_ble_eq_true rfl⟩ xcf0 rfl 72 (by decide) (xC_brd (b := 0) (by decide)) [.int v1] rfl rfl (Nat.le_of_ble_eq_true rfl) dH_waits_8 (kB_has G 0 (by decide) z m v1) (fun r8 => ?_)
  refine xR_ifeq 11 31 dH_waits_11 (by decide) ?_ ?_
  · refine xR_aln 31 0 dH_waits_31 rfl rfl ?_
    refine xR_callVic 32 cv_H_bad ml_RX8_82 ⟨Nat.le_of_ble_eq_true rfl, Nat.le_of_ble_eq_true rfl⟩ xcf6 rfl 81 (by decide) rfl [] rfl rfl (Nat.le_of_ble_eq_true rfl) dH_waits_32 (kH_bad G z m) (fun r32 => ?_)
    exact xR_iret 35 rfl rfl dH_waits_35
  · refine xR_iln 14 2 dH_waits_14 rfl rfl ?_
    refine xR_callSi 15 cs_H_isString ml_RX8_176 ⟨Nat.le_of_ble_eq_true rfl, Nat.le_of_ble_eq_true rfl⟩ [.int v2] rfl rfl (Nat.le_of_ble_eq_true rfl) dH_waits_15 (kH_isString G (m, z) v2) (fun r15 => ?_)
    refine xR_ifeq 18 31 dH_waits_18 (by decide) ?_ ?_
    · refine xR_aln 31 0 dH_waits_31 rfl rfl ?_
      refine xR_callVic 32 cv_H_bad ml_RX8_82 ⟨Nat.le_of_ble_eq_true rfl, Nat.le_of_ble_eq_true rfl⟩ xcf6 rfl 81 (by decide) rfl [] rfl rfl (Nat.le_of_ble_eq_true rfl) dH_waits_32 (kH_bad G z m) (fun r32 => ?_)
      exact xR_iret 35 rfl rfl dH_waits_35
    · refine xR_iln 21 3 dH_waits_21 rfl rfl ?_
      refine xR_ic 22 (1 : Int32) dH_waits_22 (by decide) ?_
      refine xR_bp 23 (60 : Int32) dH_waits_23 (by decide) ?_
      refine xR_callSi 25 cs_H_within ml_RX8_78 ⟨Nat.le_of_ble_eq_true rfl, Nat.le_of_ble_eq_true rfl⟩ [.int v3, .int (1 : Int32), .int (60 : Int32)] rfl rfl (Nat.le_of_ble_eq_true rfl) dH_waits_25 (kH_within G (m, z) v3 (1 : Int32) (60 : Int32)) (fun r25 => ?_)
      refine xR_ifne 28 36 dH_waits_28 (by decide) ?_ ?_
      · refine xR_aln 36 0 dH_waits_36 rfl rfl ?_
        refine xR_getf 37 xcf6 3 81 (by decide) (by decide) rfl (v := .ref (xa G 76)) rfl fl_RX8_25 dH_waits_37 ?_
        refine xR_aln 40 0 dH_waits_40 rfl rfl ?_
        refine xR_getf 41 xcf6 0 81 (by decide) (by decide) rfl (v := .ref (xa G 77)) rfl fl_RX8_10 dH_waits_41 ?_
        refine xR_getf 44 xcf5 0 77 (by decide) (by decide) (xC_twn (t := 0) (by decide)) (v := .ref (xa G 72)) rfl fl_RX8_68 dH_waits_44 ?_
        refine xR_callVvc 47 cv_B_become ml_RX8_185 ⟨Nat.le_of_ble_eq_true rfl, Nat.le_of_ble_eq_true rfl⟩ xcf0 rfl 76 (by decide) (xC_brd (b := 4) (by decide)) [.ref (xa G 72)] rfl rfl (Nat.le_of_ble_eq_true rfl) dH_waits_47 (kB_become G 4 0 (by decide) (by decide) z m) (fun r47 => ?_)
        refine xR_ic 50 (0 : Int32) dH_waits_50 (by decide) ?_
        refine xR_is 51 ([(4, .int (0 : Int32)), (0, .ref (xa G 81)), (1, .int v1), (2, .int v2), (3, .int v3)]) dH_waits_51 (by decide) rfl ?_
        exact xR_sub [1, 2, 3, 4, 0] rfl (kH_waits_l53 G z xfu v1 v2 v3 (0 : Int32) r47)
      · refine xR_aln 31 0 dH_waits_31 rfl rfl ?_
        refine xR_callVic 32 cv_H_bad ml_RX8_82 ⟨Nat.le_of_ble_eq_true rfl, Nat.le_of_ble_eq_true rfl⟩ xcf6 rfl 81 (by decide) rfl [] rfl rfl (Nat.le_of_ble_eq_true rfl) dH_waits_32 (kH_bad G z m) (fun r32 => ?_)
        exact xR_iret 35 rfl rfl dH_waits_35
theorem dH_playDried_0 : decode (xb yyH_playDried) 0 = .ok (.aload_n 0, 1) := by decide +kernel
theorem dH_playDried_1 : decode (xb yyH_playDried) 1 = .ok (.getfield 25, 3) := by decide +kernel
theorem dH_playDried_4 : decode (xb yyH_playDried) 4 = .ok (.aload_n 0, 1) := by decide +kernel
theorem dH_playDried_5 : decode (xb yyH_playDried) 5 = .ok (.getfield 10, 3) := by decide +kernel
theorem dH_playDried_8 : decode (xb yyH_playDried) 8 = .ok (.getfield 68, 3) := by decide +kernel
theorem dH_playDried_11 : decode (xb yyH_playDried) 11 = .ok (.invokevirtual 185, 3) := by decide +kernel
theorem dH_playDried_14 : decode (xb yyH_playDried) 14 = .ok (.iconst 0, 1) := by decide +kernel
theorem dH_playDried_15 : decode (xb yyH_playDried) 15 = .ok (.istore 4, 2) := by decide +kernel
theorem dH_playDried_17 : decode (xb yyH_playDried) 17 = .ok (.iload 4, 2) := by decide +kernel
theorem dH_playDried_19 : decode (xb yyH_playDried) 19 = .ok (.aload_n 0, 1) := by decide +kernel
theorem dH_playDried_20 : decode (xb yyH_playDried) 20 = .ok (.getfield 25, 3) := by decide +kernel
theorem dH_playDried_23 : decode (xb yyH_playDried) 23 = .ok (.invokevirtual 71, 3) := by decide +kernel
theorem dH_playDried_26 : decode (xb yyH_playDried) 26 = .ok (.if_icmp .ge 19, 3) := by decide +kernel
theorem dH_playDried_29 : decode (xb yyH_playDried) 29 = .ok (.aload_n 0, 1) := by decide +kernel
theorem dH_playDried_30 : decode (xb yyH_playDried) 30 = .ok (.getfield 25, 3) := by decide +kernel
theorem dH_playDried_33 : decode (xb yyH_playDried) 33 = .ok (.iload 4, 2) := by decide +kernel
theorem dH_playDried_35 : decode (xb yyH_playDried) 35 = .ok (.iload_n 3, 1) := by decide +kernel
theorem dH_playDried_36 : decode (xb yyH_playDried) 36 = .ok (.invokevirtual 163, 3) := by decide +kernel
theorem dH_playDried_39 : decode (xb yyH_playDried) 39 = .ok (.iinc 4 1, 3) := by decide +kernel
theorem dH_playDried_42 : decode (xb yyH_playDried) 42 = .ok (.goto (-25), 3) := by decide +kernel
theorem dH_playDried_45 : decode (xb yyH_playDried) 45 = .ok (.aload_n 0, 1) := by decide +kernel
theorem dH_playDried_46 : decode (xb yyH_playDried) 46 = .ok (.getfield 10, 3) := by decide +kernel
theorem dH_playDried_49 : decode (xb yyH_playDried) 49 = .ok (.aload_n 0, 1) := by decide +kernel
theorem dH_playDried_50 : decode (xb yyH_playDried) 50 = .ok (.getfield 25, 3) := by decide +kernel
theorem dH_playDried_53 : decode (xb yyH_playDried) 53 = .ok (.iload_n 1, 1) := by decide +kernel
theorem dH_playDried_54 : decode (xb yyH_playDried) 54 = .ok (.iload_n 2, 1) := by decide +kernel
theorem dH_playDried_55 : decode (xb yyH_playDried) 55 = .ok (.iconst 0, 1) := by decide +kernel
theorem dH_playDried_56 : decode (xb yyH_playDried) 56 = .ok (.invokevirtual 192, 3) := by decide +kernel
theorem dH_playDried_59 : decode (xb yyH_playDried) 59 = .ok (.ireturn, 1) := by decide +kernel
def fH_playDried_l17  : Nat → Int32 → Int32 → Int32 → Int32 → xM → Option (Int32 × xM)
  | 0, _, _, _, _, _ => none
  | n + 1, v1, v2, v3, v4, m => (fB_many 4 m).bind fun r23 => (if r23 ≤ v4 then (fW_playOn 0 4 m v1 v2 (0 : Int32)).bind fun r56 => some (r56, m) else (fB_lessDamp 4 v4 v3 m).bind fun r36 => fH_playDried_l17 n v1 v2 v3 (v4 + 1) r36)
def fH_playDried  (v1 : Int32) (v2 : Int32) (v3 : Int32) (m : xM) : Option (Int32 × xM) := (fB_become 4 0 m).bind fun r11 => fH_playDried_l17 xfu v1 v2 v3 (0 : Int32) r11
set_option maxRecDepth 100000 in
set_option maxHeartbeats 4000000 in
theorem kH_playDried_l17 (G : xG)   (z : xM)    : ∀ (n : Nat) (v1 : Int32) (v2 : Int32) (v3 : Int32) (v4 : Int32) (m : xM), xR G yyH_playDried (emic z) 17 [(0, .ref (xa G 81)), (1, .int v1), (2, .int v2), (3, .int v3), (4, .int v4)] [] (m, z) (fH_playDried_l17  n v1 v2 v3 v4 m) := by
  intro n
  induction n with
  | zero =>
    intro v1 v2 v3 v4 m
    rw [fH_playDried_l17]
    exact xR_none
  | succ n ih =>
    intro v1 v2 v3 v4 m
    rw [fH_playDried_l17]
    refine xR_il 17 4 dH_playDried_17 rfl ?_
    refine xR_aln 19 0 dH_playDried_19 rfl rfl ?_
    refine xR_getf 20 xcf6 3 81 (by decide) (by decide) rfl (v := .ref (xa G 76)) rfl fl_RX8_25 dH_playDried_20 ?_
    refine xR_callVi 23 cv_B_many ml_RX8_71 ⟨Nat.le_of_ble_eq_true rfl, Nat.le_of_ble_eq_true rfl⟩ xcf0 rfl 76 (by decide) (xC_brd (b := 4) (by decide)) [] rfl rfl (Nat.le_of_ble_eq_true rfl) dH_playDried_23 (kB_many G 4 (by decide) z m) (fun r23 => ?_)
    refine xR_icge 26 45 dH_playDried_26 (by decide) ?_ ?_
    · refine xR_aln 45 0 dH_playDried_45 rfl rfl ?_
      refine xR_getf 46 xcf6 0 81 (by decide) (by decide) rfl (v := .ref (xa G 77)) rfl fl_RX8_10 dH_playDried_46 ?_
      refine xR_aln 49 0 dH_playDried_49 rfl rfl ?_
      refine xR_getf 50 xcf6 3 81 (by decide) (by decide) rfl (v := .ref (xa G 76)) rfl fl_RX8_25 dH_playDried_50 ?_
      refine xR_iln 53 1 dH_playDried_53 rfl rfl ?_
      refine xR_iln 54 2 dH_playDried_54 rfl rfl ?_
      refine xR_ic 55 (0 : Int32) dH_playDried_55 (by decide) ?_
      refine xR_callVi 56 cv_W_playOn ml_RX8_192 ⟨Nat.le_of_ble_eq_true rfl, Nat.le_of_ble_eq_true rfl⟩ xcf5 rfl 77 (by decide) (xC_twn (t := 0) (by decide)) [.ref (xa G 76), .int v1, .int v2, .int (0 : Int32)] rfl rfl (Nat.le_of_ble_eq_true rfl) dH_playDried_56 (kW_playOn G 0 4 (by decide) (by decide) z m v1 v2 (0 : Int32)) (fun r56 => ?_)
      exact xR_iret 59 rfl rfl dH_playDried_59
    · refine xR_aln 29 0 dH_playDried_29 rfl rfl ?_
      refine xR_getf 30 xcf6 3 81 (by decide) (by decide) rfl (v := .ref (xa G 76)) rfl fl_RX8_25 dH_playDried_30 ?_
      refine xR_il 33 4 dH_playDried_33 rfl ?_
      refine xR_iln 35 3 dH_playDried_35 rfl rfl ?_
      refine xR_callVvc 36 cv_B_lessDamp ml_RX8_163 ⟨Nat.le_of_ble_eq_true rfl, Nat.le_of_ble_eq_true rfl⟩ xcf0 rfl 76 (by decide) (xC_brd (b := 4) (by decide)) [.int v4, .int v3] rfl rfl (Nat.le_of_ble_eq_true rfl) dH_playDried_36 (kB_lessDamp G 4 (by decide) z m v4 v3) (fun r36 => ?_)
      refine xR_iinc 39 4 (v4 + 1) ([(4, .int (v4 + 1)), (0, .ref (xa G 81)), (1, .int v1), (2, .int v2), (3, .int v3)]) dH_playDried_39 rfl rfl (by decide) rfl ?_
      refine xR_goto 42 17 dH_playDried_42 (by decide) ?_
      exact xR_sub [1, 2, 3, 4, 0] rfl (ih v1 v2 v3 (v4 + 1) r36)
set_option maxRecDepth 100000 in
set_option maxHeartbeats 4000000 in
theorem kH_playDried (G : xG)   (z : xM) (m : xM) (v1 : Int32) (v2 : Int32) (v3 : Int32) : ∀ a, fH_playDried  v1 v2 v3 m = some a → xCt G yyH_playDried [.ref (xa G 81), .int v1, .int v2, .int v3] (m, z) (some (.int a.1)) (a.2, z) := by
  refine xR_ct (em := (emic z)) rfl (Nat.le_of_ble_eq_true rfl) ?_
  show xR G yyH_playDried _ 0 [(0, .ref (xa G 81)), (1, .int v1), (2, .int v2), (3, .int v3)] [] _ _
  unfold fH_playDried
  refine xR_aln 0 0 dH_playDried_0 rfl rfl ?_
  refine xR_getf 1 xcf6 3 81 (by decide) (by decide) rfl (v := .ref (xa G 76)) rfl fl_RX8_25 dH_playDried_1 ?_
  refine xR_aln 4 0 dH_playDried_4 rfl rfl ?_
  refine xR_getf 5 xcf6 0 81 (by decide) (by decide) rfl (v := .ref (xa G 77)) rfl fl_RX8_10 dH_playDried_5 ?_
  refine xR_getf 8 xcf5 0 77 (by decide) (by decide) (xC_twn (t := 0) (by decide)) (v := .ref (xa G 72)) rfl fl_RX8_68 dH_playDried_8 ?_
  refine xR_callVvc 11 cv_B_become ml_RX8_185 ⟨Nat.le_of_ble_eq_true rfl, Nat.le_of_ble_eq_true rfl⟩ xcf0 rfl 76 (by decide) (xC_brd (b := 4) (by decide)) [.ref (xa G 72)] rfl rfl (Nat.le_of_ble_eq_true rfl) dH_playDried_11 (kB_become G 4 0 (by decide) (by decide) z m) (fun r11 => ?_)
  refine xR_ic 14 (0 : Int32) dH_playDried_14 (by decide) ?_
  refine xR_is 15 ([(4, .int (0 : Int32)), (0, .ref (xa G 81)), (1, .int v1), (2, .int v2), (3, .int v3)]) dH_playDried_15 (by decide) rfl ?_
  exact xR_sub [1, 2, 3, 4, 0] rfl (kH_playDried_l17 G z xfu v1 v2 v3 (0 : Int32) r11)
theorem dH_dry_0 : decode (xb yyH_dry) 0 = .ok (.aload_n 0, 1) := by decide +kernel
theorem dH_dry_1 : decode (xb yyH_dry) 1 = .ok (.getfield 10, 3) := by decide +kernel
theorem dH_dry_4 : decode (xb yyH_dry) 4 = .ok (.iload_n 1, 1) := by decide +kernel
theorem dH_dry_5 : decode (xb yyH_dry) 5 = .ok (.invokevirtual 151, 3) := by decide +kernel
theorem dH_dry_8 : decode (xb yyH_dry) 8 = .ok (.ifCond .eq 21, 3) := by decide +kernel
theorem dH_dry_11 : decode (xb yyH_dry) 11 = .ok (.iload_n 2, 1) := by decide +kernel
theorem dH_dry_12 : decode (xb yyH_dry) 12 = .ok (.invokestatic 176, 3) := by decide +kernel
theorem dH_dry_15 : decode (xb yyH_dry) 15 = .ok (.ifCond .eq 14, 3) := by decide +kernel
theorem dH_dry_18 : decode (xb yyH_dry) 18 = .ok (.iload_n 3, 1) := by decide +kernel
theorem dH_dry_19 : decode (xb yyH_dry) 19 = .ok (.iconst 1, 1) := by decide +kernel
theorem dH_dry_20 : decode (xb yyH_dry) 20 = .ok (.sipush 200, 3) := by decide +kernel
theorem dH_dry_23 : decode (xb yyH_dry) 23 = .ok (.invokestatic 78, 3) := by decide +kernel
theorem dH_dry_26 : decode (xb yyH_dry) 26 = .ok (.ifCond .ne 8, 3) := by decide +kernel
theorem dH_dry_29 : decode (xb yyH_dry) 29 = .ok (.aload_n 0, 1) := by decide +kernel
theorem dH_dry_30 : decode (xb yyH_dry) 30 = .ok (.invokevirtual 82, 3) := by decide +kernel
theorem dH_dry_33 : decode (xb yyH_dry) 33 = .ok (.ireturn, 1) := by decide +kernel
theorem dH_dry_34 : decode (xb yyH_dry) 34 = .ok (.iconst 0, 1) := by decide +kernel
theorem dH_dry_35 : decode (xb yyH_dry) 35 = .ok (.istore 4, 2) := by decide +kernel
theorem dH_dry_37 : decode (xb yyH_dry) 37 = .ok (.iload 4, 2) := by decide +kernel
theorem dH_dry_39 : decode (xb yyH_dry) 39 = .ok (.bipush 9, 2) := by decide +kernel
theorem dH_dry_41 : decode (xb yyH_dry) 41 = .ok (.if_icmp .gt 24, 3) := by decide +kernel
theorem dH_dry_44 : decode (xb yyH_dry) 44 = .ok (.aload_n 0, 1) := by decide +kernel
theorem dH_dry_45 : decode (xb yyH_dry) 45 = .ok (.iload_n 1, 1) := by decide +kernel
theorem dH_dry_46 : decode (xb yyH_dry) 46 = .ok (.iload_n 2, 1) := by decide +kernel
theorem dH_dry_47 : decode (xb yyH_dry) 47 = .ok (.iload 4, 2) := by decide +kernel
theorem dH_dry_49 : decode (xb yyH_dry) 49 = .ok (.invokevirtual 196, 3) := by decide +kernel
theorem dH_dry_52 : decode (xb yyH_dry) 52 = .ok (.iload_n 3, 1) := by decide +kernel
theorem dH_dry_53 : decode (xb yyH_dry) 53 = .ok (.if_icmp .lt 6, 3) := by decide +kernel
theorem dH_dry_56 : decode (xb yyH_dry) 56 = .ok (.iload 4, 2) := by decide +kernel
theorem dH_dry_58 : decode (xb yyH_dry) 58 = .ok (.ireturn, 1) := by decide +kernel
theorem dH_dry_59 : decode (xb yyH_dry) 59 = .ok (.iinc 4 1, 3) := by decide +kernel
theorem dH_dry_62 : decode (xb yyH_dry) 62 = .ok (.goto (-25), 3) := by decide +kernel
theorem dH_dry_65 : decode (xb yyH_dry) 65 = .ok (.iconst (-1), 1) := by decide +kernel
theorem dH_dry_66 : decode (xb yyH_dry) 66 = .ok (.ireturn, 1) := by decide +kernel
def fH_dry_l37  : Nat → Int32 → Int32 → Int32 → Int32 → xM → Option (Int32 × xM)
  | 0, _, _, _, _, _ => none
  | n + 1, v1, v2, v3, v4, m => (if (9 : Int32) < v4 then some ((-1 : Int32), m) else (fH_playDried v1 v2 v4 m).bind fun r49 => (if r49.1 < v3 then fH_dry_l37 n v1 v2 v3 (v4 + 1) r49.2 else some (v4, r49.2)))
def fH_dry  (v1 : Int32) (v2 : Int32) (v3 : Int32) (m : xM) : Option (Int32 × xM) := (fW_hasInstrument 0 m v1).bind fun r5 => (if r5 = 0 then (fH_bad m).bind fun r30 => some (r30.1, r30.2) else (fH_isString v2).bind fun r12 => (if r12 = 0 then (fH_bad m).bind fun r30 => some (r30.1, r30.2) else (fH_within v3 (1 : Int32) (200 : Int32)).bind fun r23 => (if r23 = 0 then (fH_bad m).bind fun r30 => some (r30.1, r30.2) else fH_dry_l37 xfu v1 v2 v3 (0 : Int32) m)))
set_option maxRecDepth 100000 in
set_option maxHeartbeats 4000000 in
theorem kH_dry_l37 (G : xG)   (z : xM)    : ∀ (n : Nat) (v1 : Int32) (v2 : Int32) (v3 : Int32) (v4 : Int32) (m : xM), xR G yyH_dry (emic z) 37 [(0, .ref (xa G 81)), (1, .int v1), (2, .int v2), (3, .int v3), (4, .int v4)] [] (m, z) (fH_dry_l37  n v1 v2 v3 v4 m) := by
  intro n
  induction n with
  | zero =>
    intro v1 v2 v3 v4 m
    rw [fH_dry_l37]
    exact xR_none
  | succ n ih =>
    intro v1 v2 v3 v4 m
    rw [fH_dry_l37]
    refine xR_il 37 4 dH_dry_37 rfl ?_
    refine xR_bp 39 (9 : Int32) dH_dry_39 (by decide) ?_
    refine xR_icgt 41 65 dH_dry_41 (by decide) ?_ ?_
    · refine xR_ic 65 (-1 : Int32) dH_dry_65 (by decide) ?_
      exact xR_iret 66 rfl rfl dH_dry_66
    · refine xR_aln 44 0 dH_dry_44 rfl rfl ?_
      refine xR_iln 45 1 dH_dry_45 rfl rfl ?_
      refine xR_iln 46 2 dH_dry_46 rfl rfl ?_
      refine xR_il 47 4 dH_dry_47 rfl ?_
      refine xR_callVic 49 cv_H_playDried ml_RX8_196 ⟨Nat.le_of_ble_eq_true rfl, Nat.le_of_ble_eq_true rfl⟩ xcf6 rfl 81 (by decide) rfl [.int v1, .int v2, .int v4] rfl rfl (Nat.le_of_ble_eq_true rfl) dH_dry_49 (kH_playDried G z m v1 v2 v4) (fun r49 => ?_)
      refine xR_iln 52 3 dH_dry_52 rfl rfl ?_
      refine xR_iclt 53 59 dH_dry_53 (by decide) ?_ ?_
      · refine xR_iinc 59 4 (v4 + 1) ([(4, .int (v4 + 1)), (0, .ref (xa G 81)), (1, .int v1), (2, .int v2), (3, .int v3)]) dH_dry_59 rfl rfl (by decide) rfl ?_
        refine xR_goto 62 37 dH_dry_62 (by decide) ?_
        exact xR_sub [1, 2, 3, 4, 0] rfl (ih v1 v2 v3 (v4 + 1) r49.2)
      · refine xR_il 56 4 dH_dry_56 rfl ?_
        exact xR_iret 58 rfl rfl dH_dry_58
set_option maxRecDepth 100000 in
set_option maxHeartbeats 4000000 in
theorem kH_dry (G : xG)   (z : xM) (m : xM) (v1 : Int32) (v2 : Int32) (v3 : Int32) : ∀ a, fH_dry  v1 v2 v3 m = some a → xCt G yyH_dry [.ref (xa G 81), .int v1, .int v2, .int v3] (m, z) (some (.int a.1)) (a.2, z) := by
  refine xR_ct (em := (emic z)) rfl (Nat.le_of_ble_eq_true rfl) ?_
  show xR G yyH_dry _ 0 [(0, .ref (xa G 81)), (1, .int v1), (2, .int v2), (3, .int v3)] [] _ _
  unfold fH_dry
  refine xR_aln 0 0 dH_dry_0 rfl rfl ?_
  refine xR_getf 1 xcf6 0 81 (by decide) (by decide) rfl (v := .ref (xa G 77)) rfl fl_RX8_10 dH_dry_1 ?_
  refine xR_iln 4 1 dH_dry_4 rfl rfl ?_
  refine xR_callVi 5 cv_W_hasInstrument ml_RX8_151 ⟨Nat.le_of_ble_eq_true rfl, Nat.le_of_ble_eq_true rfl⟩ xcf5 rfl 77 (by decide) (xC_twn (t := 0) (by decide)) [.int v1] rfl rfl (Nat.le_of_ble_eq_true rfl) dH_dry_5 (kW_hasInstrument G 0 (by decide) z m v1) (fun r5 => ?_)
  refine xR_ifeq 8 29 dH_dry_8 (by decide) ?_ ?_
  · refine xR_aln 29 0 dH_dry_29 rfl rfl ?_
    refine xR_callVic 30 cv_H_bad ml_RX8_82 ⟨Nat.le_of_ble_eq_true rfl, Nat.le_of_ble_eq_true rfl⟩ xcf6 rfl 81 (by decide) rfl [] rfl rfl (Nat.le_of_ble_eq_true rfl) dH_dry_30 (kH_bad G z m) (fun r30 => ?_)
    exact xR_iret 33 rfl rfl dH_dry_33
  · refine xR_iln 11 2 dH_dry_11 rfl rfl ?_
    refine xR_callSi 12 cs_H_isString ml_RX8_176 ⟨Nat.le_of_ble_eq_true rfl, Nat.le_of_ble_eq_true rfl⟩ [.int v2] rfl rfl (Nat.le_of_ble_eq_true rfl) dH_dry_12 (kH_isString G (m, z) v2) (fun r12 => ?_)
    refine xR_ifeq 15 29 dH_dry_15 (by decide) ?_ ?_
    · refine xR_aln 29 0 dH_dry_29 rfl rfl ?_
      refine xR_callVic 30 cv_H_bad ml_RX8_82 ⟨Nat.le_of_ble_eq_true rfl, Nat.le_of_ble_eq_true rfl⟩ xcf6 rfl 81 (by decide) rfl [] rfl rfl (Nat.le_of_ble_eq_true rfl) dH_dry_30 (kH_bad G z m) (fun r30 => ?_)
      exact xR_iret 33 rfl rfl dH_dry_33
    · refine xR_iln 18 3 dH_dry_18 rfl rfl ?_
      refine xR_ic 19 (1 : Int32) dH_dry_19 (by decide) ?_
      refine xR_sp 20 (200 : Int32) dH_dry_20 (by decide) ?_
      refine xR_callSi 23 cs_H_within ml_RX8_78 ⟨Nat.le_of_ble_eq_true rfl, Nat.le_of_ble_eq_true rfl⟩ [.int v3, .int (1 : Int32), .int (200 : Int32)] rfl rfl (Nat.le_of_ble_eq_true rfl) dH_dry_23 (kH_within G (m, z) v3 (1 : Int32) (200 : Int32)) (fun r23 => ?_)
      refine xR_ifne 26 34 dH_dry_26 (by decide) ?_ ?_
      · refine xR_ic 34 (0 : Int32) dH_dry_34 (by decide) ?_
        refine xR_is 35 ([(4, .int (0 : Int32)), (0, .ref (xa G 81)), (1, .int v1), (2, .int v2), (3, .int v3)]) dH_dry_35 (by decide) rfl ?_
        exact xR_sub [1, 2, 3, 4, 0] rfl (kH_dry_l37 G z xfu v1 v2 v3 (0 : Int32) m)
      · refine xR_aln 29 0 dH_dry_29 rfl rfl ?_
        refine xR_callVic 30 cv_H_bad ml_RX8_82 ⟨Nat.le_of_ble_eq_true rfl, Nat.le_of_ble_eq_true rfl⟩ xcf6 rfl 81 (by decide) rfl [] rfl rfl (Nat.le_of_ble_eq_true rfl) dH_dry_30 (kH_bad G z m) (fun r30 => ?_)
        exact xR_iret 33 rfl rfl dH_dry_33
theorem dH_tune_0 : decode (xb yyH_tune) 0 = .ok (.aload_n 0, 1) := by decide +kernel
theorem dH_tune_1 : decode (xb yyH_tune) 1 = .ok (.getfield 10, 3) := by decide +kernel
theorem dH_tune_4 : decode (xb yyH_tune) 4 = .ok (.iload_n 1, 1) := by decide +kernel
theorem dH_tune_5 : decode (xb yyH_tune) 5 = .ok (.invokevirtual 151, 3) := by decide +kernel
theorem dH_tune_8 : decode (xb yyH_tune) 8 = .ok (.ifCond .eq 21, 3) := by decide +kernel
theorem dH_tune_11 : decode (xb yyH_tune) 11 = .ok (.iload_n 2, 1) := by decide +kernel
theorem dH_tune_12 : decode (xb yyH_tune) 12 = .ok (.invokestatic 176, 3) := by decide +kernel
theorem dH_tune_15 : decode (xb yyH_tune) 15 = .ok (.ifCond .eq 14, 3) := by decide +kernel
theorem dH_tune_18 : decode (xb yyH_tune) 18 = .ok (.iload_n 3, 1) := by decide +kernel
theorem dH_tune_19 : decode (xb yyH_tune) 19 = .ok (.iconst 0, 1) := by decide +kernel
theorem dH_tune_20 : decode (xb yyH_tune) 20 = .ok (.sipush 200, 3) := by decide +kernel
theorem dH_tune_23 : decode (xb yyH_tune) 23 = .ok (.invokestatic 78, 3) := by decide +kernel
theorem dH_tune_26 : decode (xb yyH_tune) 26 = .ok (.ifCond .ne 8, 3) := by decide +kernel
theorem dH_tune_29 : decode (xb yyH_tune) 29 = .ok (.aload_n 0, 1) := by decide +kernel
theorem dH_tune_30 : decode (xb yyH_tune) 30 = .ok (.invokevirtual 82, 3) := by decide +kernel
theorem dH_tune_33 : decode (xb yyH_tune) 33 = .ok (.ireturn, 1) := by decide +kernel
theorem dH_tune_34 : decode (xb yyH_tune) 34 = .ok (.aload_n 0, 1) := by decide +kernel
theorem dH_tune_35 : decode (xb yyH_tune) 35 = .ok (.getfield 10, 3) := by decide +kernel
theorem dH_tune_38 : decode (xb yyH_tune) 38 = .ok (.getfield 68, 3) := by decide +kernel
theorem dH_tune_41 : decode (xb yyH_tune) 41 = .ok (.iconst (-1), 1) := by decide +kernel
theorem dH_tune_42 : decode (xb yyH_tune) 42 = .ok (.invokevirtual 200, 3) := by decide +kernel
theorem dH_tune_45 : decode (xb yyH_tune) 45 = .ok (.istore 4, 2) := by decide +kernel
theorem dH_tune_47 : decode (xb yyH_tune) 47 = .ok (.iconst (-1), 1) := by decide +kernel
theorem dH_tune_48 : decode (xb yyH_tune) 48 = .ok (.istore 5, 2) := by decide +kernel
theorem dH_tune_50 : decode (xb yyH_tune) 50 = .ok (.iconst 0, 1) := by decide +kernel
theorem dH_tune_51 : decode (xb yyH_tune) 51 = .ok (.istore 6, 2) := by decide +kernel
theorem dH_tune_53 : decode (xb yyH_tune) 53 = .ok (.iload 6, 2) := by decide +kernel
theorem dH_tune_55 : decode (xb yyH_tune) 55 = .ok (.iload 4, 2) := by decide +kernel
theorem dH_tune_57 : decode (xb yyH_tune) 57 = .ok (.if_icmp .gt 76, 3) := by decide +kernel
theorem dH_tune_60 : decode (xb yyH_tune) 60 = .ok (.iload 5, 2) := by decide +kernel
theorem dH_tune_62 : decode (xb yyH_tune) 62 = .ok (.iconst (-1), 1) := by decide +kernel
theorem dH_tune_63 : decode (xb yyH_tune) 63 = .ok (.if_icmp .eq 16, 3) := by decide +kernel
theorem dH_tune_66 : decode (xb yyH_tune) 66 = .ok (.iload 6, 2) := by decide +kernel
theorem dH_tune_68 : decode (xb yyH_tune) 68 = .ok (.invokestatic 203, 3) := by decide +kernel
theorem dH_tune_71 : decode (xb yyH_tune) 71 = .ok (.iload 5, 2) := by decide +kernel
theorem dH_tune_73 : decode (xb yyH_tune) 73 = .ok (.invokestatic 203, 3) := by decide +kernel
theorem dH_tune_76 : decode (xb yyH_tune) 76 = .ok (.if_icmp .ge 7, 3) := by decide +kernel
theorem dH_tune_79 : decode (xb yyH_tune) 79 = .ok (.iconst 1, 1) := by decide +kernel
theorem dH_tune_80 : decode (xb yyH_tune) 80 = .ok (.goto 4, 3) := by decide +kernel
theorem dH_tune_83 : decode (xb yyH_tune) 83 = .ok (.iconst 0, 1) := by decide +kernel
theorem dH_tune_84 : decode (xb yyH_tune) 84 = .ok (.istore 7, 2) := by decide +kernel
theorem dH_tune_86 : decode (xb yyH_tune) 86 = .ok (.iload 7, 2) := by decide +kernel
theorem dH_tune_88 : decode (xb yyH_tune) 88 = .ok (.ifCond .eq 39, 3) := by decide +kernel
theorem dH_tune_91 : decode (xb yyH_tune) 91 = .ok (.iload 6, 2) := by decide +kernel
theorem dH_tune_93 : decode (xb yyH_tune) 93 = .ok (.iload 4, 2) := by decide +kernel
theorem dH_tune_95 : decode (xb yyH_tune) 95 = .ok (.invokestatic 208, 3) := by decide +kernel
theorem dH_tune_98 : decode (xb yyH_tune) 98 = .ok (.ifCond .eq 29, 3) := by decide +kernel
theorem dH_tune_101 : decode (xb yyH_tune) 101 = .ok (.aload_n 0, 1) := by decide +kernel
theorem dH_tune_102 : decode (xb yyH_tune) 102 = .ok (.getfield 10, 3) := by decide +kernel
theorem dH_tune_105 : decode (xb yyH_tune) 105 = .ok (.aload_n 0, 1) := by decide +kernel
theorem dH_tune_106 : decode (xb yyH_tune) 106 = .ok (.getfield 10, 3) := by decide +kernel
theorem dH_tune_109 : decode (xb yyH_tune) 109 = .ok (.getfield 68, 3) := by decide +kernel
theorem dH_tune_112 : decode (xb yyH_tune) 112 = .ok (.iload_n 1, 1) := by decide +kernel
theorem dH_tune_113 : decode (xb yyH_tune) 113 = .ok (.iload_n 2, 1) := by decide +kernel
theorem dH_tune_114 : decode (xb yyH_tune) 114 = .ok (.iload 6, 2) := by decide +kernel
theorem dH_tune_116 : decode (xb yyH_tune) 116 = .ok (.invokevirtual 192, 3) := by decide +kernel
theorem dH_tune_119 : decode (xb yyH_tune) 119 = .ok (.iload_n 3, 1) := by decide +kernel
theorem dH_tune_120 : decode (xb yyH_tune) 120 = .ok (.if_icmp .ne 7, 3) := by decide +kernel
theorem dH_tune_123 : decode (xb yyH_tune) 123 = .ok (.iload 6, 2) := by decide +kernel
theorem dH_tune_125 : decode (xb yyH_tune) 125 = .ok (.istore 5, 2) := by decide +kernel
theorem dH_tune_127 : decode (xb yyH_tune) 127 = .ok (.iinc 6 1, 3) := by decide +kernel
theorem dH_tune_130 : decode (xb yyH_tune) 130 = .ok (.goto (-77), 3) := by decide +kernel
theorem dH_tune_133 : decode (xb yyH_tune) 133 = .ok (.iload 5, 2) := by decide +kernel
theorem dH_tune_135 : decode (xb yyH_tune) 135 = .ok (.ireturn, 1) := by decide +kernel
def fH_tune_b127 (k53 : Int32 → Int32 → Int32 → Int32 → Int32 → Int32 → xM → Option (Int32 × xM)) (v1 : Int32) (v2 : Int32) (v3 : Int32) (v4 : Int32) (v5 : Int32) (v6 : Int32) (m : xM) : Option (Int32 × xM) := k53 v1 v2 v3 v4 v5 (v6 + 1) m
def fH_tune_b84 (k53 : Int32 → Int32 → Int32 → Int32 → Int32 → Int32 → xM → Option (Int32 × xM)) (v1 : Int32) (v2 : Int32) (v3 : Int32) (v4 : Int32) (v5 : Int32) (v6 : Int32) (s0 : Int32) (m : xM) : Option (Int32 × xM) := (if s0 = 0 then fH_tune_b127 k53 v1 v2 v3 v4 v5 v6 m else (fH_isPartOf v6 v4).bind fun r95 => (if r95 = 0 then fH_tune_b127 k53 v1 v2 v3 v4 v5 v6 m else (fW_playOn 0 0 m v1 v2 v6).bind fun r116 => (if r116 = v3 then fH_tune_b127 k53 v1 v2 v3 v4 v6 v6 m else fH_tune_b127 k53 v1 v2 v3 v4 v5 v6 m)))
def fH_tune_b79 (k53 : Int32 → Int32 → Int32 → Int32 → Int32 → Int32 → xM → Option (Int32 × xM)) (v1 : Int32) (v2 : Int32) (v3 : Int32) (v4 : Int32) (v5 : Int32) (v6 : Int32) (m : xM) : Option (Int32 × xM) := fH_tune_b84 k53 v1 v2 v3 v4 v5 v6 (1 : Int32) m
def fH_tune_l53  : Nat → Int32 → Int32 → Int32 → Int32 → Int32 → Int32 → xM → Option (Int32 × xM)
  | 0, _, _, _, _, _, _, _ => none
  | n + 1, v1, v2, v3, v4, v5, v6, m => (if v4 < v6 then some (v5, m) else (if v5 = (-1 : Int32) then fH_tune_b79 (fH_tune_l53 n) v1 v2 v3 v4 v5 v6 m else (fJ_bitCount v6).bind fun r68 => (fJ_bitCount v5).bind fun r73 => (if r73 ≤ r68 then fH_tune_b84 (fH_tune_l53 n) v1 v2 v3 v4 v5 v6 (0 : Int32) m else fH_tune_b79 (fH_tune_l53 n) v1 v2 v3 v4 v5 v6 m)))
def fH_tune  (v1 : Int32) (v2 : Int32) (v3 : Int32) (m : xM) : Option (Int32 × xM) := (fW_hasInstrument 0 m v1).bind fun r5 => (if r5 = 0 then (fH_bad m).bind fun r30 => some (r30.1, r30.2) else (fH_isString v2).bind fun r12 => (if r12 = 0 then (fH_bad m).bind fun r30 => some (r30.1, r30.2) else (fH_within v3 (0 : Int32) (200 : Int32)).bind fun r23 => (if r23 = 0 then (fH_bad m).bind fun r30 => some (r30.1, r30.2) else (fB_maskIn 0 m (-1 : Int32)).bind fun r42 => fH_tune_l53 xfu v1 v2 v3 r42 (-1 : Int32) (0 : Int32) m)))
set_option maxRecDepth 100000 in
set_option maxHeartbeats 4000000 in
theorem kH_tune_b127 (G : xG)   (z : xM)  (k53 : Int32 → Int32 → Int32 → Int32 → Int32 → Int32 → xM → Option (Int32 × xM)) (hk53 : ∀ (v1 : Int32) (v2 : Int32) (v3 : Int32) (v4 : Int32) (v5 : Int32) (v6 : Int32) (m : xM), xR G yyH_tune (emic z) 53 [(0, .ref (xa G 81)), (1, .int v1), (2, .int v2), (3, .int v3), (4, .int v4), (5, .int v5), (6, .int v6)] [] (m, z) (k53 v1 v2 v3 v4 v5 v6 m)) (v1 : Int32) (v2 : Int32) (v3 : Int32) (v4 : Int32) (v5 : Int32) (v6 : Int32) (m : xM) : xR G yyH_tune (emic z) 127 [(0, .ref (xa G 81)), (1, .int v1), (2, .int v2), (3, .int v3), (4, .int v4), (5, .int v5), (6, .int v6)] [] (m, z) (fH_tune_b127 k53 v1 v2 v3 v4 v5 v6 m) := by
  unfold fH_tune_b127
  refine xR_iinc 127 6 (v6 + 1) ([(6, .int (v6 + 1)), (0, .ref (xa G 81)), (1, .int v1), (2, .int v2), (3, .int v3), (4, .int v4), (5, .int v5)]) dH_tune_127 rfl rfl (by decide) rfl ?_
  refine xR_goto 130 53 dH_tune_130 (by decide) ?_
  exact xR_sub [1, 2, 3, 4, 5, 6, 0] rfl (hk53 v1 v2 v3 v4 v5 (v6 + 1) m)
set_option maxRecDepth 100000 in
set_option maxHeartbeats 4000000 in
theorem kH_tune_b84 (G : xG)   (z : xM)  (k53 : Int32 → Int32 → Int32 → Int32 → Int32 → Int32 → xM → Option (Int32 × xM)) (hk53 : ∀ (v1 : Int32) (v2 : Int32) (v3 : Int32) (v4 : Int32) (v5 : Int32) (v6 : Int32) (m : xM), xR G yyH_tune (emic z) 53 [(0, .ref (xa G 81)), (1, .int v1), (2, .int v2), (3, .int v3), (4, .int v4), (5, .int v5), (6, .int v6)] [] (m, z) (k53 v1 v2 v3 v4 v5 v6 m)) (v1 : Int32) (v2 : Int32) (v3 : Int32) (v4 : Int32) (v5 : Int32) (v6 : Int32) (s0 : Int32) (m : xM) : xR G yyH_tune (emic z) 84 [(0, .ref (xa G 81)), (1, .int v1), (2, .int v2), (3, .int v3), (4, .int v4), (5, .int v5), (6, .int v6)] [.int s0] (m, z) (fH_tune_b84 k53 v1 v2 v3 v4 v5 v6 s0 m) := by
  unfold fH_tune_b84
  refine xR_is 84 ([(7, .int s0), (0, .ref (xa G 81)), (1, .int v1), (2, .int v2), (3, .int v3), (4, .int v4), (5, .int v5), (6, .int v6)]) dH_tune_84 (by decide) rfl ?_
  refine xR_il 86 0 dH_tune_86 rfl ?_
  refine xR_ifeq 88 127 dH_tune_88 (by decide) ?_ ?_
  · exact xR_sub [1, 2, 3, 4, 5, 6, 7] rfl (kH_tune_b127 G z k53 hk53 v1 v2 v3 v4 v5 v6 m)
  · refine xR_il 91 7 dH_tune_91 rfl ?_
    refine xR_il 93 5 dH_tune_93 rfl ?_
    refine xR_callSi 95 cs_H_isPartOf ml_RX8_208 ⟨Nat.le_of_ble_eq_true rfl, Nat.le_of_ble_eq_true rfl⟩ [.int v6, .int v4] rfl rfl (Nat.le_of_ble_eq_true rfl) dH_tune_95 (kH_isPartOf G (m, z) v6 v4) (fun r95 => ?_)
    refine xR_ifeq 98 127 dH_tune_98 (by decide) ?_ ?_
    · exact xR_sub [1, 2, 3, 4, 5, 6, 7] rfl (kH_tune_b127 G z k53 hk53 v1 v2 v3 v4 v5 v6 m)
    · refine xR_aln 101 1 dH_tune_101 rfl rfl ?_
      refine xR_getf 102 xcf6 0 81 (by decide) (by decide) rfl (v := .ref (xa G 77)) rfl fl_RX8_10 dH_tune_102 ?_
      refine xR_aln 105 1 dH_tune_105 rfl rfl ?_
      refine xR_getf 106 xcf6 0 81 (by decide) (by decide) rfl (v := .ref (xa G 77)) rfl fl_RX8_10 dH_tune_106 ?_
      refine xR_getf 109 xcf5 0 77 (by decide) (by decide) (xC_twn (t := 0) (by decide)) (v := .ref (xa G 72)) rfl fl_RX8_68 dH_tune_109 ?_
      refine xR_iln 112 2 dH_tune_112 rfl rfl ?_
      refine xR_iln 113 3 dH_tune_113 rfl rfl ?_
      refine xR_il 114 7 dH_tune_114 rfl ?_
      refine xR_callVi 116 cv_W_playOn ml_RX8_192 ⟨Nat.le_of_ble_eq_true rfl, Nat.le_of_ble_eq_true rfl⟩ xcf5 rfl 77 (by decide) (xC_twn (t := 0) (by decide)) [.ref (xa G 72), .int v1, .int v2, .int v6] rfl rfl (Nat.le_of_ble_eq_true rfl) dH_tune_116 (kW_playOn G 0 0 (by decide) (by decide) z m v1 v2 v6) (fun r116 => ?_)
      refine xR_iln 119 4 dH_tune_119 rfl rfl ?_
      refine xR_icne 120 127 dH_tune_120 (by decide) ?_ ?_
      · exact xR_sub [1, 2, 3, 4, 5, 6, 7] rfl (kH_tune_b127 G z k53 hk53 v1 v2 v3 v4 v5 v6 m)
      · refine xR_il 123 7 dH_tune_123 rfl ?_
        refine xR_is 125 ([(5, .int v6), (7, .int s0), (0, .ref (xa G 81)), (1, .int v1), (2, .int v2), (3, .int v3), (4, .int v4), (6, .int v6)]) dH_tune_125 (by decide) rfl ?_
        exact xR_sub [2, 3, 4, 5, 6, 0, 7] rfl (kH_tune_b127 G z k53 hk53 v1 v2 v3 v4 v6 v6 m)
set_option maxRecDepth 100000 in
set_option maxHeartbeats 4000000 in
theorem kH_tune_b79 (G : xG)   (z : xM)  (k53 : Int32 → Int32 → Int32 → Int32 → Int32 → Int32 → xM → Option (Int32 × xM)) (hk53 : ∀ (v1 : Int32) (v2 : Int32) (v3 : Int32) (v4 : Int32) (v5 : Int32) (v6 : Int32) (m : xM), xR G yyH_tune (emic z) 53 [(0, .ref (xa G 81)), (1, .int v1), (2, .int v2), (3, .int v3), (4, .int v4), (5, .int v5), (6, .int v6)] [] (m, z) (k53 v1 v2 v3 v4 v5 v6 m)) (v1 : Int32) (v2 : Int32) (v3 : Int32) (v4 : Int32) (v5 : Int32) (v6 : Int32) (m : xM) : xR G yyH_tune (emic z) 79 [(0, .ref (xa G 81)), (1, .int v1), (2, .int v2), (3, .int v3), (4, .int v4), (5, .int v5), (6, .int v6)] [] (m, z) (fH_tune_b79 k53 v1 v2 v3 v4 v5 v6 m) := by
  unfold fH_tune_b79
  refine xR_ic 79 (1 : Int32) dH_tune_79 (by decide) ?_
  refine xR_goto 80 84 dH_tune_80 (by decide) ?_
  exact kH_tune_b84 G z k53 hk53 v1 v2 v3 v4 v5 v6 (1 : Int32) m
set_option maxRecDepth 100000 in
set_option maxHeartbeats 4000000 in
theorem kH_tune_l53 (G : xG)   (z : xM)    : ∀ (n : Nat) (v1 : Int32) (v2 : Int32) (v3 : Int32) (v4 : Int32) (v5 : Int32) (v6 : Int32) (m : xM), xR G yyH_tune (emic z) 53 [(0, .ref (xa G 81)), (1, .int v1), (2, .int v2), (3, .int v3), (4, .int v4), (5, .int v5), (6, .int v6)] [] (m, z) (fH_tune_l53  n v1 v2 v3 v4 v5 v6 m) := by
  intro n
  induction n with
  | zero =>
    intro v1 v2 v3 v4 v5 v6 m
    rw [fH_tune_l53]
    exact xR_none
  | succ n ih =>
    intro v1 v2 v3 v4 v5 v6 m
    rw [fH_tune_l53]
    refine xR_il 53 6 dH_tune_53 rfl ?_
    refine xR_il 55 4 dH_tune_55 rfl ?_
    refine xR_icgt 57 133 dH_tune_57 (by decide) ?_ ?_
    · refine xR_il 133 5 dH_tune_133 rfl ?_
      exact xR_iret 135 rfl rfl dH_tune_135
    · refine xR_il 60 5 dH_tune_60 rfl ?_
      refine xR_ic 62 (-1 : Int32) dH_tune_62 (by decide) ?_
      refine xR_iceq 63 79 dH_tune_63 (by decide) ?_ ?_
      · exact kH_tune_b79 G z (fH_tune_l53 n) ih v1 v2 v3 v4 v5 v6 m
      · refine xR_il 66 6 dH_tune_66 rfl ?_
        refine xR_callSi 68 cs_J_bitCount ml_RX8_203 ⟨Nat.le_of_ble_eq_true rfl, Nat.le_of_ble_eq_true rfl⟩ [.int v6] rfl rfl (Nat.le_of_ble_eq_true rfl) dH_tune_68 (kJ_bitCount G (m, z) v6) (fun r68 => ?_)
        refine xR_il 71 5 dH_tune_71 rfl ?_
        refine xR_callSi 73 cs_J_bitCount ml_RX8_203 ⟨Nat.le_of_ble_eq_true rfl, Nat.le_of_ble_eq_true rfl⟩ [.int v5] rfl rfl (Nat.le_of_ble_eq_true rfl) dH_tune_73 (kJ_bitCount G (m, z) v5) (fun r73 => ?_)
        refine xR_icge 76 83 dH_tune_76 (by decide) ?_ ?_
        · refine xR_ic 83 (0 : Int32) dH_tune_83 (by decide) ?_
          exact kH_tune_b84 G z (fH_tune_l53 n) ih v1 v2 v3 v4 v5 v6 (0 : Int32) m
        · exact kH_tune_b79 G z (fH_tune_l53 n) ih v1 v2 v3 v4 v5 v6 m
set_option maxRecDepth 100000 in
set_option maxHeartbeats 4000000 in
theorem kH_tune (G : xG)   (z : xM) (m : xM) (v1 : Int32) (v2 : Int32) (v3 : Int32) : ∀ a, fH_tune  v1 v2 v3 m = some a → xCt G yyH_tune [.ref (xa G 81), .int v1, .int v2, .int v3] (m, z) (some (.int a.1)) (a.2, z) := by
  refine xR_ct (em := (emic z)) rfl (Nat.le_of_ble_eq_true rfl) ?_
  show xR G yyH_tune _ 0 [(0, .ref (xa G 81)), (1, .int v1), (2, .int v2), (3, .int v3)] [] _ _
  unfold fH_tune
  refine xR_aln 0 0 dH_tune_0 rfl rfl ?_
  refine xR_getf 1 xcf6 0 81 (by decide) (by decide) rfl (v := .ref (xa G 77)) rfl fl_RX8_10 dH_tune_1 ?_
  refine xR_iln 4 1 dH_tune_4 rfl rfl ?_
  refine xR_callVi 5 cv_W_hasInstrument ml_RX8_151 ⟨Nat.le_of_ble_eq_true rfl, Nat.le_of_ble_eq_true rfl⟩ xcf5 rfl 77 (by decide) (xC_twn (t := 0) (by decide)) [.int v1] rfl rfl (Nat.le_of_ble_eq_true rfl) dH_tune_5 (kW_hasInstrument G 0 (by decide) z m v1) (fun r5 => ?_)
  refine xR_ifeq 8 29 dH_tune_8 (by decide) ?_ ?_
  · refine xR_aln 29 0 dH_tune_29 rfl rfl ?_
    refine xR_callVic 30 cv_H_bad ml_RX8_82 ⟨Nat.le_of_ble_eq_true rfl, Nat.le_of_ble_eq_true rfl⟩ xcf6 rfl 81 (by decide) rfl [] rfl rfl (Nat.le_of_ble_eq_true rfl) dH_tune_30 (kH_bad G z m) (fun r30 => ?_)
    exact xR_iret 33 rfl rfl dH_tune_33
  · refine xR_iln 11 2 dH_tune_11 rfl rfl ?_
    refine xR_callSi 12 cs_H_isString ml_RX8_176 ⟨Nat.le_of_ble_eq_true rfl, Nat.le_of_ble_eq_true rfl⟩ [.int v2] rfl rfl (Nat.le_of_ble_eq_true rfl) dH_tune_12 (kH_isString G (m, z) v2) (fun r12 => ?_)
    refine xR_ifeq 15 29 dH_tune_15 (by decide) ?_ ?_
    · refine xR_aln 29 0 dH_tune_29 rfl rfl ?_
      refine xR_callVic 30 cv_H_bad ml_RX8_82 ⟨Nat.le_of_ble_eq_true rfl, Nat.le_of_ble_eq_true rfl⟩ xcf6 rfl 81 (by decide) rfl [] rfl rfl (Nat.le_of_ble_eq_true rfl) dH_tune_30 (kH_bad G z m) (fun r30 => ?_)
      exact xR_iret 33 rfl rfl dH_tune_33
    · refine xR_iln 18 3 dH_tune_18 rfl rfl ?_
      refine xR_ic 19 (0 : Int32) dH_tune_19 (by decide) ?_
      refine xR_sp 20 (200 : Int32) dH_tune_20 (by decide) ?_
      refine xR_callSi 23 cs_H_within ml_RX8_78 ⟨Nat.le_of_ble_eq_true rfl, Nat.le_of_ble_eq_true rfl⟩ [.int v3, .int (0 : Int32), .int (200 : Int32)] rfl rfl (Nat.le_of_ble_eq_true rfl) dH_tune_23 (kH_within G (m, z) v3 (0 : Int32) (200 : Int32)) (fun r23 => ?_)
      refine xR_ifne 26 34 dH_tune_26 (by decide) ?_ ?_
      · refine xR_aln 34 0 dH_tune_34 rfl rfl ?_
        refine xR_getf 35 xcf6 0 81 (by decide) (by decide) rfl (v := .ref (xa G 77)) rfl fl_RX8_10 dH_tune_35 ?_
        refine xR_getf 38 xcf5 0 77 (by decide) (by decide) (xC_twn (t := 0) (by decide)) (v := .ref (xa G 72)) rfl fl_RX8_68 dH_tune_38 ?_
        refine xR_ic 41 (-1 : Int32) dH_tune_41 (by decide) ?_
        refine xR_callVi 42 cv_B_maskIn ml_RX8_200 ⟨Nat.le_of_ble_eq_true rfl, Nat.le_of_ble_eq_true rfl⟩ xcf0 rfl 72 (by decide) (xC_brd (b := 0) (by decide)) [.int (-1 : Int32)] rfl rfl (Nat.le_of_ble_eq_true rfl) dH_tune_42 (kB_maskIn G 0 (by decide) z m (-1 : Int32)) (fun r42 => ?_)
        refine xR_is 45 ([(4, .int r42), (0, .ref (xa G 81)), (1, .int v1), (2, .int v2), (3, .int v3)]) dH_tune_45 (by decide) rfl ?_
        refine xR_ic 47 (-1 : Int32) dH_tune_47 (by decide) ?_
        refine xR_is 48 ([(5, .int (-1 : Int32)), (4, .int r42), (0, .ref (xa G 81)), (1, .int v1), (2, .int v2), (3, .int v3)]) dH_tune_48 (by decide) rfl ?_
        refine xR_ic 50 (0 : Int32) dH_tune_50 (by decide) ?_
        refine xR_is 51 ([(6, .int (0 : Int32)), (5, .int (-1 : Int32)), (4, .int r42), (0, .ref (xa G 81)), (1, .int v1), (2, .int v2), (3, .int v3)]) dH_tune_51 (by decide) rfl ?_
        exact xR_sub [3, 4, 5, 6, 2, 1, 0] rfl (kH_tune_l53 G z xfu v1 v2 v3 r42 (-1 : Int32) (0 : Int32) m)
      · refine xR_aln 29 0 dH_tune_29 rfl rfl ?_
        refine xR_callVic 30 cv_H_bad ml_RX8_82 ⟨Nat.le_of_ble_eq_true rfl, Nat.le_of_ble_eq_true rfl⟩ xcf6 rfl 81 (by decide) rfl [] rfl rfl (Nat.le_of_ble_eq_true rfl) dH_tune_30 (kH_bad G z m) (fun r30 => ?_)
        exact xR_iret 33 rfl rfl dH_tune_33
theorem dH_best_0 : decode (xb yyH_best) 0 = .ok (.iload_n 1, 1) := by decide +kernel
theorem dH_best_1 : decode (xb yyH_best) 1 = .ok (.invokestatic 176, 3) := by decide +kernel
theorem dH_best_4 : decode (xb yyH_best) 4 = .ok (.ifCond .eq 22, 3) := by decide +kernel
theorem dH_best_7 : decode (xb yyH_best) 7 = .ok (.iload_n 2, 1) := by decide +kernel
theorem dH_best_8 : decode (xb yyH_best) 8 = .ok (.iconst (-1), 1) := by decide +kernel
theorem dH_best_9 : decode (xb yyH_best) 9 = .ok (.if_icmp .eq 24, 3) := by decide +kernel
theorem dH_best_12 : decode (xb yyH_best) 12 = .ok (.aload_n 0, 1) := by decide +kernel
theorem dH_best_13 : decode (xb yyH_best) 13 = .ok (.getfield 10, 3) := by decide +kernel
theorem dH_best_16 : decode (xb yyH_best) 16 = .ok (.getfield 68, 3) := by decide +kernel
theorem dH_best_19 : decode (xb yyH_best) 19 = .ok (.iload_n 2, 1) := by decide +kernel
theorem dH_best_20 : decode (xb yyH_best) 20 = .ok (.invokevirtual 118, 3) := by decide +kernel
theorem dH_best_23 : decode (xb yyH_best) 23 = .ok (.ifCond .ne 10, 3) := by decide +kernel
theorem dH_best_26 : decode (xb yyH_best) 26 = .ok (.aload_n 0, 1) := by decide +kernel
theorem dH_best_27 : decode (xb yyH_best) 27 = .ok (.bipush (-10), 2) := by decide +kernel
theorem dH_best_29 : decode (xb yyH_best) 29 = .ok (.invokevirtual 212, 3) := by decide +kernel
theorem dH_best_32 : decode (xb yyH_best) 32 = .ok (.ireturn, 1) := by decide +kernel
theorem dH_best_33 : decode (xb yyH_best) 33 = .ok (.aload_n 0, 1) := by decide +kernel
theorem dH_best_34 : decode (xb yyH_best) 34 = .ok (.getfield 10, 3) := by decide +kernel
theorem dH_best_37 : decode (xb yyH_best) 37 = .ok (.getfield 110, 3) := by decide +kernel
theorem dH_best_40 : decode (xb yyH_best) 40 = .ok (.invokevirtual 113, 3) := by decide +kernel
theorem dH_best_43 : decode (xb yyH_best) 43 = .ok (.ifCond .ne 5, 3) := by decide +kernel
theorem dH_best_46 : decode (xb yyH_best) 46 = .ok (.iconst (-1), 1) := by decide +kernel
theorem dH_best_47 : decode (xb yyH_best) 47 = .ok (.ireturn, 1) := by decide +kernel
theorem dH_best_48 : decode (xb yyH_best) 48 = .ok (.iload_n 2, 1) := by decide +kernel
theorem dH_best_49 : decode (xb yyH_best) 49 = .ok (.iconst (-1), 1) := by decide +kernel
theorem dH_best_50 : decode (xb yyH_best) 50 = .ok (.if_icmp .eq 30, 3) := by decide +kernel
theorem dH_best_53 : decode (xb yyH_best) 53 = .ok (.aload_n 0, 1) := by decide +kernel
theorem dH_best_54 : decode (xb yyH_best) 54 = .ok (.getfield 10, 3) := by decide +kernel
theorem dH_best_57 : decode (xb yyH_best) 57 = .ok (.getfield 68, 3) := by decide +kernel
theorem dH_best_60 : decode (xb yyH_best) 60 = .ok (.iload_n 2, 1) := by decide +kernel
theorem dH_best_61 : decode (xb yyH_best) 61 = .ok (.invokevirtual 154, 3) := by decide +kernel
theorem dH_best_64 : decode (xb yyH_best) 64 = .ok (.ifCond .ne 16, 3) := by decide +kernel
theorem dH_best_67 : decode (xb yyH_best) 67 = .ok (.aload_n 0, 1) := by decide +kernel
theorem dH_best_68 : decode (xb yyH_best) 68 = .ok (.getfield 10, 3) := by decide +kernel
theorem dH_best_71 : decode (xb yyH_best) 71 = .ok (.getfield 68, 3) := by decide +kernel
theorem dH_best_74 : decode (xb yyH_best) 74 = .ok (.iload_n 2, 1) := by decide +kernel
theorem dH_best_75 : decode (xb yyH_best) 75 = .ok (.iconst 5, 1) := by decide +kernel
theorem dH_best_76 : decode (xb yyH_best) 76 = .ok (.invokevirtual 121, 3) := by decide +kernel
theorem dH_best_79 : decode (xb yyH_best) 79 = .ok (.ireturn, 1) := by decide +kernel
theorem dH_best_80 : decode (xb yyH_best) 80 = .ok (.aload_n 0, 1) := by decide +kernel
theorem dH_best_81 : decode (xb yyH_best) 81 = .ok (.getfield 48, 3) := by decide +kernel
theorem dH_best_84 : decode (xb yyH_best) 84 = .ok (.aload_n 0, 1) := by decide +kernel
theorem dH_best_85 : decode (xb yyH_best) 85 = .ok (.getfield 10, 3) := by decide +kernel
theorem dH_best_88 : decode (xb yyH_best) 88 = .ok (.iload_n 1, 1) := by decide +kernel
theorem dH_best_89 : decode (xb yyH_best) 89 = .ok (.invokevirtual 215, 3) := by decide +kernel
theorem dH_best_92 : decode (xb yyH_best) 92 = .ok (.iload_n 2, 1) := by decide +kernel
theorem dH_best_93 : decode (xb yyH_best) 93 = .ok (.iconst (-1), 1) := by decide +kernel
theorem dH_best_94 : decode (xb yyH_best) 94 = .ok (.if_icmp .ne 20, 3) := by decide +kernel
theorem dH_best_97 : decode (xb yyH_best) 97 = .ok (.aload_n 0, 1) := by decide +kernel
theorem dH_best_98 : decode (xb yyH_best) 98 = .ok (.getfield 48, 3) := by decide +kernel
theorem dH_best_101 : decode (xb yyH_best) 101 = .ok (.aload_n 0, 1) := by decide +kernel
theorem dH_best_102 : decode (xb yyH_best) 102 = .ok (.getfield 48, 3) := by decide +kernel
theorem dH_best_105 : decode (xb yyH_best) 105 = .ok (.getfield 219, 3) := by decide +kernel
theorem dH_best_108 : decode (xb yyH_best) 108 = .ok (.invokevirtual 222, 3) := by decide +kernel
theorem dH_best_111 : decode (xb yyH_best) 111 = .ok (.goto 11, 3) := by decide +kernel
theorem dH_best_114 : decode (xb yyH_best) 114 = .ok (.aload_n 0, 1) := by decide +kernel
theorem dH_best_115 : decode (xb yyH_best) 115 = .ok (.getfield 48, 3) := by decide +kernel
theorem dH_best_118 : decode (xb yyH_best) 118 = .ok (.iload_n 2, 1) := by decide +kernel
theorem dH_best_119 : decode (xb yyH_best) 119 = .ok (.invokevirtual 225, 3) := by decide +kernel
theorem dH_best_122 : decode (xb yyH_best) 122 = .ok (.ireturn, 1) := by decide +kernel
def fH_best_b80  (v1 : Int32) (v2 : Int32) (m : xM) : Option (Int32 × xM) := (fK_listen 0 v1 m).bind fun r89 => (if v2 = (-1 : Int32) then (fK_mostOfLeast (r89.1 39 1) r89).bind fun r108 => some (r108.1, r108.2) else (fK_placeOf v2 r89).bind fun r119 => some (r119.1, r119.2))
def fH_best_b33  (v1 : Int32) (v2 : Int32) (m : xM) : Option (Int32 × xM) := (fT_many 3 m).bind fun r40 => (if r40 = 0 then some ((-1 : Int32), m) else (if v2 = (-1 : Int32) then fH_best_b80 v1 v2 m else (fB_isFree 0 m v2).bind fun r61 => (if r61 = 0 then (fB_cell 0 m v2 (5 : Int32)).bind fun r76 => some (r76, m) else fH_best_b80 v1 v2 m)))
def fH_best  (v1 : Int32) (v2 : Int32) (m : xM) : Option (Int32 × xM) := (fH_isString v1).bind fun r1 => (if r1 = 0 then (fH_badAs (-10 : Int32) m).bind fun r29 => some (r29.1, r29.2) else (if v2 = (-1 : Int32) then fH_best_b33 v1 v2 m else (fB_has 0 m v2).bind fun r20 => (if r20 = 0 then (fH_badAs (-10 : Int32) m).bind fun r29 => some (r29.1, r29.2) else fH_best_b33 v1 v2 m)))
set_option maxRecDepth 100000 in
set_option maxHeartbeats 4000000 in
theorem kH_best_b80 (G : xG)   (z : xM)    (v1 : Int32) (v2 : Int32) (m : xM) : xR G yyH_best (emic z) 80 [(0, .ref (xa G 81)), (1, .int v1), (2, .int v2)] [] (m, z) (fH_best_b80  v1 v2 m) := by
  unfold fH_best_b80
  refine xR_aln 80 0 dH_best_80 rfl rfl ?_
  refine xR_getf 81 xcf6 6 81 (by decide) (by decide) rfl (v := .ref (xa G 82)) rfl fl_RX8_48 dH_best_81 ?_
  refine xR_aln 84 0 dH_best_84 rfl rfl ?_
  refine xR_getf 85 xcf6 0 81 (by decide) (by decide) rfl (v := .ref (xa G 77)) rfl fl_RX8_10 dH_best_85 ?_
  refine xR_iln 88 1 dH_best_88 rfl rfl ?_
  refine xR_callVvc 89 cv_K_listen ml_RX8_215 ⟨Nat.le_of_ble_eq_true rfl, Nat.le_of_ble_eq_true rfl⟩ xcf1 rfl 82 (by decide) rfl [.ref (xa G 77), .int v1] rfl rfl (Nat.le_of_ble_eq_true rfl) dH_best_89 (kK_listen G 0 (by decide) z m v1) (fun r89 => ?_)
  refine xR_iln 92 2 dH_best_92 rfl rfl ?_
  refine xR_ic 93 (-1 : Int32) dH_best_93 (by decide) ?_
  refine xR_icne 94 114 dH_best_94 (by decide) ?_ ?_
  · refine xR_aln 114 0 dH_best_114 rfl rfl ?_
    refine xR_getf 115 xcf6 6 81 (by decide) (by decide) rfl (v := .ref (xa G 82)) rfl fl_RX8_48 dH_best_115 ?_
    refine xR_iln 118 2 dH_best_118 rfl rfl ?_
    refine xR_callVic 119 cv_K_placeOf ml_RX8_225 ⟨Nat.le_of_ble_eq_true rfl, Nat.le_of_ble_eq_true rfl⟩ xcf1 rfl 82 (by decide) rfl [.int v2] rfl rfl (Nat.le_of_ble_eq_true rfl) dH_best_119 (kK_placeOf G z r89 v2) (fun r119 => ?_)
    exact xR_iret 122 rfl rfl dH_best_122
  · refine xR_aln 97 0 dH_best_97 rfl rfl ?_
    refine xR_getf 98 xcf6 6 81 (by decide) (by decide) rfl (v := .ref (xa G 82)) rfl fl_RX8_48 dH_best_98 ?_
    refine xR_aln 101 0 dH_best_101 rfl rfl ?_
    refine xR_getf 102 xcf6 6 81 (by decide) (by decide) rfl (v := .ref (xa G 82)) rfl fl_RX8_48 dH_best_102 ?_
    refine xR_getf 105 xcf1 4 82 (by decide) (by decide) rfl (v := .int (r89.1 39 1)) rfl fl_RX8_219 dH_best_105 ?_
    refine xR_callVic 108 cv_K_mostOfLeast ml_RX8_222 ⟨Nat.le_of_ble_eq_true rfl, Nat.le_of_ble_eq_true rfl⟩ xcf1 rfl 82 (by decide) rfl [.int (r89.1 39 1)] rfl rfl (Nat.le_of_ble_eq_true rfl) dH_best_108 (kK_mostOfLeast G z r89 (r89.1 39 1)) (fun r108 => ?_)
    refine xR_goto 111 122 dH_best_111 (by decide) ?_
    exact xR_iret 122 rfl rfl dH_best_122
set_option maxRecDepth 100000 in
set_option maxHeartbeats 4000000 in
theorem kH_best_b33 (G : xG)   (z : xM)    (v1 : Int32) (v2 : Int32) (m : xM) : xR G yyH_best (emic z) 33 [(0, .ref (xa G 81)), (1, .int v1), (2, .int v2)] [] (m, z) (fH_best_b33  v1 v2 m) := by
  unfold fH_best_b33
  refine xR_aln 33 0 dH_best_33 rfl rfl ?_
  refine xR_getf 34 xcf6 0 81 (by decide) (by decide) rfl (v := .ref (xa G 77)) rfl fl_RX8_10 dH_best_34 ?_
  refine xR_getf 37 xcf5 3 77 (by decide) (by decide) (xC_twn (t := 0) (by decide)) (v := .ref (xa G 39)) rfl fl_RX8_110 dH_best_37 ?_
  refine xR_callVi 40 cv_T_many ml_RX8_113 ⟨Nat.le_of_ble_eq_true rfl, Nat.le_of_ble_eq_true rfl⟩ xcf3 rfl 39 (by decide) (xC_tab (t := 3) (by decide)) [] rfl rfl (Nat.le_of_ble_eq_true rfl) dH_best_40 (kT_many G 3 (by decide) z m) (fun r40 => ?_)
  refine xR_ifne 43 48 dH_best_43 (by decide) ?_ ?_
  · refine xR_iln 48 2 dH_best_48 rfl rfl ?_
    refine xR_ic 49 (-1 : Int32) dH_best_49 (by decide) ?_
    refine xR_iceq 50 80 dH_best_50 (by decide) ?_ ?_
    · exact kH_best_b80 G z v1 v2 m
    · refine xR_aln 53 0 dH_best_53 rfl rfl ?_
      refine xR_getf 54 xcf6 0 81 (by decide) (by decide) rfl (v := .ref (xa G 77)) rfl fl_RX8_10 dH_best_54 ?_
      refine xR_getf 57 xcf5 0 77 (by decide) (by decide) (xC_twn (t := 0) (by decide)) (v := .ref (xa G 72)) rfl fl_RX8_68 dH_best_57 ?_
      refine xR_iln 60 2 dH_best_60 rfl rfl ?_
      refine xR_callVi 61 cv_B_isFree ml_RX8_154 ⟨Nat.le_of_ble_eq_true rfl, Nat.le_of_ble_eq_true rfl⟩ xcf0 rfl 72 (by decide) (xC_brd (b := 0) (by decide)) [.int v2] rfl rfl (Nat.le_of_ble_eq_true rfl) dH_best_61 (kB_isFree G 0 (by decide) z m v2) (fun r61 => ?_)
      refine xR_ifne 64 80 dH_best_64 (by decide) ?_ ?_
      · exact kH_best_b80 G z v1 v2 m
      · refine xR_aln 67 0 dH_best_67 rfl rfl ?_
        refine xR_getf 68 xcf6 0 81 (by decide) (by decide) rfl (v := .ref (xa G 77)) rfl fl_RX8_10 dH_best_68 ?_
        refine xR_getf 71 xcf5 0 77 (by decide) (by decide) (xC_twn (t := 0) (by decide)) (v := .ref (xa G 72)) rfl fl_RX8_68 dH_best_71 ?_
        refine xR_iln 74 2 dH_best_74 rfl rfl ?_
        refine xR_ic 75 (5 : Int32) dH_best_75 (by decide) ?_
        refine xR_callVi 76 cv_B_cell ml_RX8_121 ⟨Nat.le_of_ble_eq_true rfl, Nat.le_of_ble_eq_true rfl⟩ xcf0 rfl 72 (by decide) (xC_brd (b := 0) (by decide)) [.int v2, .int (5 : Int32)] rfl rfl (Nat.le_of_ble_eq_true rfl) dH_best_76 (kB_cell G 0 (by decide) z m v2 (5 : Int32)) (fun r76 => ?_)
        exact xR_iret 79 rfl rfl dH_best_79
  · refine xR_ic 46 (-1 : Int32) dH_best_46 (by decide) ?_
    exact xR_iret 47 rfl rfl dH_best_47
set_option maxRecDepth 100000 in
set_option maxHeartbeats 4000000 in
theorem kH_best (G : xG)   (z : xM) (m : xM) (v1 : Int32) (v2 : Int32) : ∀ a, fH_best  v1 v2 m = some a → xCt G yyH_best [.ref (xa G 81), .int v1, .int v2] (m, z) (some (.int a.1)) (a.2, z) := by
  refine xR_ct (em := (emic z)) rfl (Nat.le_of_ble_eq_true rfl) ?_
  show xR G yyH_best _ 0 [(0, .ref (xa G 81)), (1, .int v1), (2, .int v2)] [] _ _
  unfold fH_best
  refine xR_iln 0 1 dH_best_0 rfl rfl ?_
  refine xR_callSi 1 cs_H_isString ml_RX8_176 ⟨Nat.le_of_ble_eq_true rfl, Nat.le_of_ble_eq_true rfl⟩ [.int v1] rfl rfl (Nat.le_of_ble_eq_true rfl) dH_best_1 (kH_isString G (m, z) v1) (fun r1 => ?_)
  refine xR_ifeq 4 26 dH_best_4 (by decide) ?_ ?_
  · refine xR_aln 26 0 dH_best_26 rfl rfl ?_
    refine xR_bp 27 (-10 : Int32) dH_best_27 (by decide) ?_
    refine xR_callVic 29 cv_H_badAs ml_RX8_212 ⟨Nat.le_of_ble_eq_true rfl, Nat.le_of_ble_eq_true rfl⟩ xcf6 rfl 81 (by decide) rfl [.int (-10 : Int32)] rfl rfl (Nat.le_of_ble_eq_true rfl) dH_best_29 (kH_badAs G z m (-10 : Int32)) (fun r29 => ?_)
    exact xR_iret 32 rfl rfl dH_best_32
  · refine xR_iln 7 2 dH_best_7 rfl rfl ?_
    refine xR_ic 8 (-1 : Int32) dH_best_8 (by decide) ?_
    refine xR_iceq 9 33 dH_best_9 (by decide) ?_ ?_
    · exact kH_best_b33 G z v1 v2 m
    · refine xR_aln 12 0 dH_best_12 rfl rfl ?_
      refine xR_getf 13 xcf6 0 81 (by decide) (by decide) rfl (v := .ref (xa G 77)) rfl fl_RX8_10 dH_best_13 ?_
      refine xR_getf 16 xcf5 0 77 (by decide) (by decide) (xC_twn (t := 0) (by decide)) (v := .ref (xa G 72)) rfl fl_RX8_68 dH_best_16 ?_
      refine xR_iln 19 2 dH_best_19 rfl rfl ?_
      refine xR_callVi 20 cv_B_has ml_RX8_118 ⟨Nat.le_of_ble_eq_true rfl, Nat.le_of_ble_eq_true rfl⟩ xcf0 rfl 72 (by decide) (xC_brd (b := 0) (by decide)) [.int v2] rfl rfl (Nat.le_of_ble_eq_true rfl) dH_best_20 (kB_has G 0 (by decide) z m v2) (fun r20 => ?_)
      refine xR_ifne 23 33 dH_best_23 (by decide) ?_ ?_
      · exact kH_best_b33 G z v1 v2 m
      · refine xR_aln 26 0 dH_best_26 rfl rfl ?_
        refine xR_bp 27 (-10 : Int32) dH_best_27 (by decide) ?_
        refine xR_callVic 29 cv_H_badAs ml_RX8_212 ⟨Nat.le_of_ble_eq_true rfl, Nat.le_of_ble_eq_true rfl⟩ xcf6 rfl 81 (by decide) rfl [.int (-10 : Int32)] rfl rfl (Nat.le_of_ble_eq_true rfl) dH_best_29 (kH_badAs G z m (-10 : Int32)) (fun r29 => ?_)
        exact xR_iret 32 rfl rfl dH_best_32
theorem dH_together_0 : decode (xb yyH_together) 0 = .ok (.aload_n 0, 1) := by decide +kernel
theorem dH_together_1 : decode (xb yyH_together) 1 = .ok (.getfield 10, 3) := by decide +kernel
theorem dH_together_4 : decode (xb yyH_together) 4 = .ok (.iload_n 1, 1) := by decide +kernel
theorem dH_together_5 : decode (xb yyH_together) 5 = .ok (.invokevirtual 151, 3) := by decide +kernel
theorem dH_together_8 : decode (xb yyH_together) 8 = .ok (.ifCond .eq 10, 3) := by decide +kernel
theorem dH_together_11 : decode (xb yyH_together) 11 = .ok (.iload_n 2, 1) := by decide +kernel
theorem dH_together_12 : decode (xb yyH_together) 12 = .ok (.invokestatic 176, 3) := by decide +kernel
theorem dH_together_15 : decode (xb yyH_together) 15 = .ok (.ifCond .ne 8, 3) := by decide +kernel
theorem dH_together_18 : decode (xb yyH_together) 18 = .ok (.aload_n 0, 1) := by decide +kernel
theorem dH_together_19 : decode (xb yyH_together) 19 = .ok (.invokevirtual 82, 3) := by decide +kernel
theorem dH_together_22 : decode (xb yyH_together) 22 = .ok (.ireturn, 1) := by decide +kernel
theorem dH_together_23 : decode (xb yyH_together) 23 = .ok (.aload_n 0, 1) := by decide +kernel
theorem dH_together_24 : decode (xb yyH_together) 24 = .ok (.getfield 10, 3) := by decide +kernel
theorem dH_together_27 : decode (xb yyH_together) 27 = .ok (.iload_n 1, 1) := by decide +kernel
theorem dH_together_28 : decode (xb yyH_together) 28 = .ok (.iload_n 2, 1) := by decide +kernel
theorem dH_together_29 : decode (xb yyH_together) 29 = .ok (.invokevirtual 228, 3) := by decide +kernel
theorem dH_together_32 : decode (xb yyH_together) 32 = .ok (.ireturn, 1) := by decide +kernel
def fH_together  (v1 : Int32) (v2 : Int32) (m : xM) : Option (Int32 × xM) := (fW_hasInstrument 0 m v1).bind fun r5 => (if r5 = 0 then (fH_bad m).bind fun r19 => some (r19.1, r19.2) else (fH_isString v2).bind fun r12 => (if r12 = 0 then (fH_bad m).bind fun r19 => some (r19.1, r19.2) else (fW_likeOnes 0 m v1 v2).bind fun r29 => some (r29, m)))
set_option maxRecDepth 100000 in
set_option maxHeartbeats 4000000 in
theorem kH_together (G : xG)   (z : xM) (m : xM) (v1 : Int32) (v2 : Int32) : ∀ a, fH_together  v1 v2 m = some a → xCt G yyH_together [.ref (xa G 81), .int v1, .int v2] (m, z) (some (.int a.1)) (a.2, z) := by
  refine xR_ct (em := (emic z)) rfl (Nat.le_of_ble_eq_true rfl) ?_
  show xR G yyH_together _ 0 [(0, .ref (xa G 81)), (1, .int v1), (2, .int v2)] [] _ _
  unfold fH_together
  refine xR_aln 0 0 dH_together_0 rfl rfl ?_
  refine xR_getf 1 xcf6 0 81 (by decide) (by decide) rfl (v := .ref (xa G 77)) rfl fl_RX8_10 dH_together_1 ?_
  refine xR_iln 4 1 dH_together_4 rfl rfl ?_
  refine xR_callVi 5 cv_W_hasInstrument ml_RX8_151 ⟨Nat.le_of_ble_eq_true rfl, Nat.le_of_ble_eq_true rfl⟩ xcf5 rfl 77 (by decide) (xC_twn (t := 0) (by decide)) [.int v1] rfl rfl (Nat.le_of_ble_eq_true rfl) dH_together_5 (kW_hasInstrument G 0 (by decide) z m v1) (fun r5 => ?_)
  refine xR_ifeq 8 18 dH_together_8 (by decide) ?_ ?_
  · refine xR_aln 18 0 dH_together_18 rfl rfl ?_
    refine xR_callVic 19 cv_H_bad ml_RX8_82 ⟨Nat.le_of_ble_eq_true rfl, Nat.le_of_ble_eq_true rfl⟩ xcf6 rfl 81 (by decide) rfl [] rfl rfl (Nat.le_of_ble_eq_true rfl) dH_together_19 (kH_bad G z m) (fun r19 => ?_)
    exact xR_iret 22 rfl rfl dH_together_22
  · refine xR_iln 11 2 dH_together_11 rfl rfl ?_
    refine xR_callSi 12 cs_H_isString ml_RX8_176 ⟨Nat.le_of_ble_eq_true rfl, Nat.le_of_ble_eq_true rfl⟩ [.int v2] rfl rfl (Nat.le_of_ble_eq_true rfl) dH_together_12 (kH_isString G (m, z) v2) (fun r12 => ?_)
    refine xR_ifne 15 23 dH_together_15 (by decide) ?_ ?_
    · refine xR_aln 23 0 dH_together_23 rfl rfl ?_
      refine xR_getf 24 xcf6 0 81 (by decide) (by decide) rfl (v := .ref (xa G 77)) rfl fl_RX8_10 dH_together_24 ?_
      refine xR_iln 27 1 dH_together_27 rfl rfl ?_
      refine xR_iln 28 2 dH_together_28 rfl rfl ?_
      refine xR_callVi 29 cv_W_likeOnes ml_RX8_228 ⟨Nat.le_of_ble_eq_true rfl, Nat.le_of_ble_eq_true rfl⟩ xcf5 rfl 77 (by decide) (xC_twn (t := 0) (by decide)) [.int v1, .int v2] rfl rfl (Nat.le_of_ble_eq_true rfl) dH_together_29 (kW_likeOnes G 0 (by decide) z m v1 v2) (fun r29 => ?_)
      exact xR_iret 32 rfl rfl dH_together_32
    · refine xR_aln 18 0 dH_together_18 rfl rfl ?_
      refine xR_callVic 19 cv_H_bad ml_RX8_82 ⟨Nat.le_of_ble_eq_true rfl, Nat.le_of_ble_eq_true rfl⟩ xcf6 rfl 81 (by decide) rfl [] rfl rfl (Nat.le_of_ble_eq_true rfl) dH_together_19 (kH_bad G z m) (fun r19 => ?_)
      exact xR_iret 22 rfl rfl dH_together_22
theorem dH_areFriends_0 : decode (xb yyH_areFriends) 0 = .ok (.iconst 0, 1) := by decide +kernel
theorem dH_areFriends_1 : decode (xb yyH_areFriends) 1 = .ok (.istore_n 2, 1) := by decide +kernel
theorem dH_areFriends_2 : decode (xb yyH_areFriends) 2 = .ok (.iload_n 2, 1) := by decide +kernel
theorem dH_areFriends_3 : decode (xb yyH_areFriends) 3 = .ok (.aload_n 0, 1) := by decide +kernel
theorem dH_areFriends_4 : decode (xb yyH_areFriends) 4 = .ok (.getfield 10, 3) := by decide +kernel
theorem dH_areFriends_7 : decode (xb yyH_areFriends) 7 = .ok (.getfield 110, 3) := by decide +kernel
theorem dH_areFriends_10 : decode (xb yyH_areFriends) 10 = .ok (.invokevirtual 113, 3) := by decide +kernel
theorem dH_areFriends_13 : decode (xb yyH_areFriends) 13 = .ok (.if_icmp .ge 35, 3) := by decide +kernel
theorem dH_areFriends_16 : decode (xb yyH_areFriends) 16 = .ok (.iload_n 1, 1) := by decide +kernel
theorem dH_areFriends_17 : decode (xb yyH_areFriends) 17 = .ok (.iload_n 2, 1) := by decide +kernel
theorem dH_areFriends_18 : decode (xb yyH_areFriends) 18 = .ok (.invokestatic 331, 3) := by decide +kernel
theorem dH_areFriends_21 : decode (xb yyH_areFriends) 21 = .ok (.ifCond .eq 21, 3) := by decide +kernel
theorem dH_areFriends_24 : decode (xb yyH_areFriends) 24 = .ok (.iload_n 1, 1) := by decide +kernel
theorem dH_areFriends_25 : decode (xb yyH_areFriends) 25 = .ok (.aload_n 0, 1) := by decide +kernel
theorem dH_areFriends_26 : decode (xb yyH_areFriends) 26 = .ok (.getfield 61, 3) := by decide +kernel
theorem dH_areFriends_29 : decode (xb yyH_areFriends) 29 = .ok (.iload_n 2, 1) := by decide +kernel
theorem dH_areFriends_30 : decode (xb yyH_areFriends) 30 = .ok (.iconst 0, 1) := by decide +kernel
theorem dH_areFriends_31 : decode (xb yyH_areFriends) 31 = .ok (.invokevirtual 88, 3) := by decide +kernel
theorem dH_areFriends_34 : decode (xb yyH_areFriends) 34 = .ok (.invokestatic 208, 3) := by decide +kernel
theorem dH_areFriends_37 : decode (xb yyH_areFriends) 37 = .ok (.ifCond .ne 5, 3) := by decide +kernel
theorem dH_areFriends_40 : decode (xb yyH_areFriends) 40 = .ok (.iconst 0, 1) := by decide +kernel
theorem dH_areFriends_41 : decode (xb yyH_areFriends) 41 = .ok (.ireturn, 1) := by decide +kernel
theorem dH_areFriends_42 : decode (xb yyH_areFriends) 42 = .ok (.iinc 2 1, 3) := by decide +kernel
theorem dH_areFriends_45 : decode (xb yyH_areFriends) 45 = .ok (.goto (-43), 3) := by decide +kernel
theorem dH_areFriends_48 : decode (xb yyH_areFriends) 48 = .ok (.iconst 1, 1) := by decide +kernel
theorem dH_areFriends_49 : decode (xb yyH_areFriends) 49 = .ok (.ireturn, 1) := by decide +kernel
def fH_areFriends_b42  (m : xM) (k2 : Int32 → Int32 → Option (Int32)) (v1 : Int32) (v2 : Int32) : Option (Int32) := k2 v1 (v2 + 1)
def fH_areFriends_l2  (m : xM) : Nat → Int32 → Int32 → Option (Int32)
  | 0, _, _ => none
  | n + 1, v1, v2 => (fT_many 3 m).bind fun r10 => (if r10 ≤ v2 then some (xnb (1 : Int32)) else (fH_holdsBit v1 v2).bind fun r18 => (if r18 = 0 then fH_areFriends_b42 m (fH_areFriends_l2 m n) v1 v2 else (fT_get 35 m v2 (0 : Int32)).bind fun r31 => (fH_isPartOf v1 r31).bind fun r34 => (if r34 = 0 then some (xnb (0 : Int32)) else fH_areFriends_b42 m (fH_areFriends_l2 m n) v1 v2)))
def fH_areFriends  (m : xM) (v1 : Int32) : Option (Int32) := fH_areFriends_l2 m xfu v1 (0 : Int32)
set_option maxRecDepth 100000 in
set_option maxHeartbeats 4000000 in
theorem kH_areFriends_b42 (G : xG)   (z : xM) (m : xM) (k2 : Int32 → Int32 → Option (Int32)) (hk2 : ∀ (v1 : Int32) (v2 : Int32), xR G yyH_areFriends (emi (m, z)) 2 [(0, .ref (xa G 81)), (1, .int v1), (2, .int v2)] [] (m, z) (k2 v1 v2)) (v1 : Int32) (v2 : Int32) : xR G yyH_areFriends (emi (m, z)) 42 [(0, .ref (xa G 81)), (1, .int v1), (2, .int v2)] [] (m, z) (fH_areFriends_b42 m k2 v1 v2) := by
  unfold fH_areFriends_b42
  refine xR_iinc 42 2 (v2 + 1) ([(2, .int (v2 + 1)), (0, .ref (xa G 81)), (1, .int v1)]) dH_areFriends_42 rfl rfl (by decide) rfl ?_
  refine xR_goto 45 2 dH_areFriends_45 (by decide) ?_
  exact xR_sub [1, 2, 0] rfl (hk2 v1 (v2 + 1))
set_option maxRecDepth 100000 in
set_option maxHeartbeats 4000000 in
theorem kH_areFriends_l2 (G : xG)   (z : xM) (m : xM)   : ∀ (n : Nat) (v1 : Int32) (v2 : Int32), xR G yyH_areFriends (emi (m, z)) 2 [(0, .ref (xa G 81)), (1, .int v1), (2, .int v2)] [] (m, z) (fH_areFriends_l2 m n v1 v2) := by
  intro n
  induction n with
  | zero =>
    intro v1 v2
    rw [fH_areFriends_l2]
    exact xR_none
  | succ n ih =>
    intro v1 v2
    rw [fH_areFriends_l2]
    refine xR_iln 2 2 dH_areFriends_2 rfl rfl ?_
    refine xR_aln 3 0 dH_areFriends_3 rfl rfl ?_
    refine xR_getf 4 xcf6 0 81 (by decide) (by decide) rfl (v := .ref (xa G 77)) rfl fl_RX8_10 dH_areFriends_4 ?_
    refine xR_getf 7 xcf5 3 77 (by decide) (by decide) (xC_twn (t := 0) (by decide)) (v := .ref (xa G 39)) rfl fl_RX8_110 dH_areFriends_7 ?_
    refine xR_callVi 10 cv_T_many ml_RX8_113 ⟨Nat.le_of_ble_eq_true rfl, Nat.le_of_ble_eq_true rfl⟩ xcf3 rfl 39 (by decide) (xC_tab (t := 3) (by decide)) [] rfl rfl (Nat.le_of_ble_eq_true rfl) dH_areFriends_10 (kT_many G 3 (by decide) z m) (fun r10 => ?_)
    refine xR_icge 13 48 dH_areFriends_13 (by decide) ?_ ?_
    · refine xR_ic 48 (1 : Int32) dH_areFriends_48 (by decide) ?_
      exact xR_zret 49 rfl rfl dH_areFriends_49
    · refine xR_iln 16 1 dH_areFriends_16 rfl rfl ?_
      refine xR_iln 17 2 dH_areFriends_17 rfl rfl ?_
      refine xR_callSi 18 cs_H_holdsBit ml_RX8_331 ⟨Nat.le_of_ble_eq_true rfl, Nat.le_of_ble_eq_true rfl⟩ [.int v1, .int v2] rfl rfl (Nat.le_of_ble_eq_true rfl) dH_areFriends_18 (kH_holdsBit G (m, z) v1 v2) (fun r18 => ?_)
      refine xR_ifeq 21 42 dH_areFriends_21 (by decide) ?_ ?_
      · exact kH_areFriends_b42 G z m (fH_areFriends_l2 m n) ih v1 v2
      · refine xR_iln 24 1 dH_areFriends_24 rfl rfl ?_
        refine xR_aln 25 0 dH_areFriends_25 rfl rfl ?_
        refine xR_getf 26 xcf6 8 81 (by decide) (by decide) rfl (v := .ref (xa G 71)) rfl fl_RX8_61 dH_areFriends_26 ?_
        refine xR_iln 29 2 dH_areFriends_29 rfl rfl ?_
        refine xR_ic 30 (0 : Int32) dH_areFriends_30 (by decide) ?_
        refine xR_callVi 31 cv_T_get ml_RX8_88 ⟨Nat.le_of_ble_eq_true rfl, Nat.le_of_ble_eq_true rfl⟩ xcf3 rfl 71 (by decide) (xC_tab (t := 35) (by decide)) [.int v2, .int (0 : Int32)] rfl rfl (Nat.le_of_ble_eq_true rfl) dH_areFriends_31 (kT_get G 35 (by decide) z m v2 (0 : Int32)) (fun r31 => ?_)
        refine xR_callSi 34 cs_H_isPartOf ml_RX8_208 ⟨Nat.le_of_ble_eq_true rfl, Nat.le_of_ble_eq_true rfl⟩ [.int v1, .int r31] rfl rfl (Nat.le_of_ble_eq_true rfl) dH_areFriends_34 (kH_isPartOf G (m, z) v1 r31) (fun r34 => ?_)
        refine xR_ifne 37 42 dH_areFriends_37 (by decide) ?_ ?_
        · exact kH_areFriends_b42 G z m (fH_areFriends_l2 m n) ih v1 v2
        · refine xR_ic 40 (0 : Int32) dH_areFriends_40 (by decide) ?_
          exact xR_zret 41 rfl rfl dH_areFriends_41
set_option maxRecDepth 100000 in
set_option maxHeartbeats 4000000 in
theorem kH_areFriends (G : xG)   (z : xM) (m : xM) (v1 : Int32) : ∀ a, fH_areFriends m v1 = some a → xCt G yyH_areFriends [.ref (xa G 81), .int v1] (m, z) (some (.int a)) (m, z) := by
  refine xR_ct (em := (emi (m, z))) rfl (Nat.le_of_ble_eq_true rfl) ?_
  show xR G yyH_areFriends _ 0 [(0, .ref (xa G 81)), (1, .int v1)] [] _ _
  unfold fH_areFriends
  refine xR_ic 0 (0 : Int32) dH_areFriends_0 (by decide) ?_
  refine xR_isn 1 ([(2, .int (0 : Int32)), (0, .ref (xa G 81)), (1, .int v1)]) dH_areFriends_1 rfl (by decide) rfl ?_
  exact xR_sub [1, 2, 0] rfl (kH_areFriends_l2 G z m xfu v1 (0 : Int32))
theorem dH_orchestra_0 : decode (xb yyH_orchestra) 0 = .ok (.aload_n 0, 1) := by decide +kernel
theorem dH_orchestra_1 : decode (xb yyH_orchestra) 1 = .ok (.getfield 10, 3) := by decide +kernel
theorem dH_orchestra_4 : decode (xb yyH_orchestra) 4 = .ok (.getfield 110, 3) := by decide +kernel
theorem dH_orchestra_7 : decode (xb yyH_orchestra) 7 = .ok (.invokevirtual 113, 3) := by decide +kernel
theorem dH_orchestra_10 : decode (xb yyH_orchestra) 10 = .ok (.istore_n 1, 1) := by decide +kernel
theorem dH_orchestra_11 : decode (xb yyH_orchestra) 11 = .ok (.iconst 0, 1) := by decide +kernel
theorem dH_orchestra_12 : decode (xb yyH_orchestra) 12 = .ok (.istore_n 2, 1) := by decide +kernel
theorem dH_orchestra_13 : decode (xb yyH_orchestra) 13 = .ok (.iload_n 2, 1) := by decide +kernel
theorem dH_orchestra_14 : decode (xb yyH_orchestra) 14 = .ok (.iload_n 1, 1) := by decide +kernel
theorem dH_orchestra_15 : decode (xb yyH_orchestra) 15 = .ok (.if_icmp .ge 57, 3) := by decide +kernel
theorem dH_orchestra_18 : decode (xb yyH_orchestra) 18 = .ok (.aload_n 0, 1) := by decide +kernel
theorem dH_orchestra_19 : decode (xb yyH_orchestra) 19 = .ok (.getfield 10, 3) := by decide +kernel
theorem dH_orchestra_22 : decode (xb yyH_orchestra) 22 = .ok (.iload_n 2, 1) := by decide +kernel
theorem dH_orchestra_23 : decode (xb yyH_orchestra) 23 = .ok (.iconst 0, 1) := by decide +kernel
theorem dH_orchestra_24 : decode (xb yyH_orchestra) 24 = .ok (.invokevirtual 228, 3) := by decide +kernel
theorem dH_orchestra_27 : decode (xb yyH_orchestra) 27 = .ok (.istore_n 3, 1) := by decide +kernel
theorem dH_orchestra_28 : decode (xb yyH_orchestra) 28 = .ok (.iconst 1, 1) := by decide +kernel
theorem dH_orchestra_29 : decode (xb yyH_orchestra) 29 = .ok (.istore 4, 2) := by decide +kernel
theorem dH_orchestra_31 : decode (xb yyH_orchestra) 31 = .ok (.iload 4, 2) := by decide +kernel
theorem dH_orchestra_33 : decode (xb yyH_orchestra) 33 = .ok (.iconst 4, 1) := by decide +kernel
theorem dH_orchestra_34 : decode (xb yyH_orchestra) 34 = .ok (.if_icmp .ge 22, 3) := by decide +kernel
theorem dH_orchestra_37 : decode (xb yyH_orchestra) 37 = .ok (.iload_n 3, 1) := by decide +kernel
theorem dH_orchestra_38 : decode (xb yyH_orchestra) 38 = .ok (.aload_n 0, 1) := by decide +kernel
theorem dH_orchestra_39 : decode (xb yyH_orchestra) 39 = .ok (.getfield 10, 3) := by decide +kernel
theorem dH_orchestra_42 : decode (xb yyH_orchestra) 42 = .ok (.iload_n 2, 1) := by decide +kernel
theorem dH_orchestra_43 : decode (xb yyH_orchestra) 43 = .ok (.iload 4, 2) := by decide +kernel
theorem dH_orchestra_45 : decode (xb yyH_orchestra) 45 = .ok (.invokevirtual 228, 3) := by decide +kernel
theorem dH_orchestra_48 : decode (xb yyH_orchestra) 48 = .ok (.iand, 1) := by decide +kernel
theorem dH_orchestra_49 : decode (xb yyH_orchestra) 49 = .ok (.istore_n 3, 1) := by decide +kernel
theorem dH_orchestra_50 : decode (xb yyH_orchestra) 50 = .ok (.iinc 4 1, 3) := by decide +kernel
theorem dH_orchestra_53 : decode (xb yyH_orchestra) 53 = .ok (.goto (-22), 3) := by decide +kernel
theorem dH_orchestra_56 : decode (xb yyH_orchestra) 56 = .ok (.aload_n 0, 1) := by decide +kernel
theorem dH_orchestra_57 : decode (xb yyH_orchestra) 57 = .ok (.getfield 61, 3) := by decide +kernel
theorem dH_orchestra_60 : decode (xb yyH_orchestra) 60 = .ok (.iload_n 2, 1) := by decide +kernel
theorem dH_orchestra_61 : decode (xb yyH_orchestra) 61 = .ok (.iconst 0, 1) := by decide +kernel
theorem dH_orchestra_62 : decode (xb yyH_orchestra) 62 = .ok (.iload_n 3, 1) := by decide +kernel
theorem dH_orchestra_63 : decode (xb yyH_orchestra) 63 = .ok (.invokevirtual 91, 3) := by decide +kernel
theorem dH_orchestra_66 : decode (xb yyH_orchestra) 66 = .ok (.iinc 2 1, 3) := by decide +kernel
theorem dH_orchestra_69 : decode (xb yyH_orchestra) 69 = .ok (.goto (-56), 3) := by decide +kernel
theorem dH_orchestra_72 : decode (xb yyH_orchestra) 72 = .ok (.iconst 0, 1) := by decide +kernel
theorem dH_orchestra_73 : decode (xb yyH_orchestra) 73 = .ok (.istore_n 2, 1) := by decide +kernel
theorem dH_orchestra_74 : decode (xb yyH_orchestra) 74 = .ok (.iconst 1, 1) := by decide +kernel
theorem dH_orchestra_75 : decode (xb yyH_orchestra) 75 = .ok (.istore_n 3, 1) := by decide +kernel
theorem dH_orchestra_76 : decode (xb yyH_orchestra) 76 = .ok (.iload_n 3, 1) := by decide +kernel
theorem dH_orchestra_77 : decode (xb yyH_orchestra) 77 = .ok (.iconst 1, 1) := by decide +kernel
theorem dH_orchestra_78 : decode (xb yyH_orchestra) 78 = .ok (.iload_n 1, 1) := by decide +kernel
theorem dH_orchestra_79 : decode (xb yyH_orchestra) 79 = .ok (.ishl, 1) := by decide +kernel
theorem dH_orchestra_80 : decode (xb yyH_orchestra) 80 = .ok (.if_icmp .ge 30, 3) := by decide +kernel
theorem dH_orchestra_83 : decode (xb yyH_orchestra) 83 = .ok (.iload_n 3, 1) := by decide +kernel
theorem dH_orchestra_84 : decode (xb yyH_orchestra) 84 = .ok (.invokestatic 203, 3) := by decide +kernel
theorem dH_orchestra_87 : decode (xb yyH_orchestra) 87 = .ok (.iload_n 2, 1) := by decide +kernel
theorem dH_orchestra_88 : decode (xb yyH_orchestra) 88 = .ok (.invokestatic 203, 3) := by decide +kernel
theorem dH_orchestra_91 : decode (xb yyH_orchestra) 91 = .ok (.if_icmp .le 13, 3) := by decide +kernel
theorem dH_orchestra_94 : decode (xb yyH_orchestra) 94 = .ok (.aload_n 0, 1) := by decide +kernel
theorem dH_orchestra_95 : decode (xb yyH_orchestra) 95 = .ok (.iload_n 3, 1) := by decide +kernel
theorem dH_orchestra_96 : decode (xb yyH_orchestra) 96 = .ok (.invokevirtual 231, 3) := by decide +kernel
theorem dH_orchestra_99 : decode (xb yyH_orchestra) 99 = .ok (.ifCond .eq 5, 3) := by decide +kernel
theorem dH_orchestra_102 : decode (xb yyH_orchestra) 102 = .ok (.iload_n 3, 1) := by decide +kernel
theorem dH_orchestra_103 : decode (xb yyH_orchestra) 103 = .ok (.istore_n 2, 1) := by decide +kernel
theorem dH_orchestra_104 : decode (xb yyH_orchestra) 104 = .ok (.iinc 3 1, 3) := by decide +kernel
theorem dH_orchestra_107 : decode (xb yyH_orchestra) 107 = .ok (.goto (-31), 3) := by decide +kernel
theorem dH_orchestra_110 : decode (xb yyH_orchestra) 110 = .ok (.iload_n 2, 1) := by decide +kernel
theorem dH_orchestra_111 : decode (xb yyH_orchestra) 111 = .ok (.ireturn, 1) := by decide +kernel
def fH_orchestra_b104 (k76 : Int32 → Int32 → Int32 → xM → Option (Int32 × xM)) (v1 : Int32) (v2 : Int32) (v3 : Int32) (m : xM) : Option (Int32 × xM) := k76 v1 v2 (v3 + 1) m
def fH_orchestra_l76  : Nat → Int32 → Int32 → Int32 → xM → Option (Int32 × xM)
  | 0, _, _, _, _ => none
  | n + 1, v1, v2, v3, m => (if ((1 : Int32) <<< (v1 &&& 31)) ≤ v3 then some (v2, m) else (fJ_bitCount v3).bind fun r84 => (fJ_bitCount v2).bind fun r88 => (if r84 ≤ r88 then fH_orchestra_b104 (fH_orchestra_l76 n) v1 v2 v3 m else (fH_areFriends m v3).bind fun r96 => (if r96 = 0 then fH_orchestra_b104 (fH_orchestra_l76 n) v1 v2 v3 m else fH_orchestra_b104 (fH_orchestra_l76 n) v1 v3 v3 m)))
def fH_orchestra_l31 (k13 : Int32 → Int32 → xM → Option (Int32 × xM)) : Nat → Int32 → Int32 → Int32 → Int32 → xM → Option (Int32 × xM)
  | 0, _, _, _, _, _ => none
  | n + 1, v1, v2, v3, v4, m => (if (4 : Int32) ≤ v4 then (fT_put 35 v2 (0 : Int32) v3 m).bind fun r63 => k13 v1 (v2 + 1) r63 else (fW_likeOnes 0 m v2 v4).bind fun r45 => fH_orchestra_l31 k13 n v1 v2 (v3 &&& r45) (v4 + 1) m)
def fH_orchestra_l13  : Nat → Int32 → Int32 → xM → Option (Int32 × xM)
  | 0, _, _, _ => none
  | n + 1, v1, v2, m => (if v1 ≤ v2 then fH_orchestra_l76 xfu v1 (0 : Int32) (1 : Int32) m else (fW_likeOnes 0 m v2 (0 : Int32)).bind fun r24 => fH_orchestra_l31 (fH_orchestra_l13 n) xfu v1 v2 r24 (1 : Int32) m)
def fH_orchestra  (m : xM) : Option (Int32 × xM) := (fT_many 3 m).bind fun r7 => fH_orchestra_l13 xfu r7 (0 : Int32) m
set_option maxRecDepth 100000 in
set_option maxHeartbeats 4000000 in
theorem kH_orchestra_b104 (G : xG)   (z : xM)  (k76 : Int32 → Int32 → Int32 → xM → Option (Int32 × xM)) (hk76 : ∀ (v1 : Int32) (v2 : Int32) (v3 : Int32) (m : xM), xR G yyH_orchestra (emic z) 76 [(0, .ref (xa G 81)), (1, .int v1), (2, .int v2), (3, .int v3)] [] (m, z) (k76 v1 v2 v3 m)) (v1 : Int32) (v2 : Int32) (v3 : Int32) (m : xM) : xR G yyH_orchestra (emic z) 104 [(0, .ref (xa G 81)), (1, .int v1), (2, .int v2), (3, .int v3)] [] (m, z) (fH_orchestra_b104 k76 v1 v2 v3 m) := by
  unfold fH_orchestra_b104
  refine xR_iinc 104 3 (v3 + 1) ([(3, .int (v3 + 1)), (0, .ref (xa G 81)), (1, .int v1), (2, .int v2)]) dH_orchestra_104 rfl rfl (by decide) rfl ?_
  refine xR_goto 107 76 dH_orchestra_107 (by decide) ?_
  exact xR_sub [1, 2, 3, 0] rfl (hk76 v1 v2 (v3 + 1) m)
set_option maxRecDepth 100000 in
set_option maxHeartbeats 4000000 in
theorem kH_orchestra_l76 (G : xG)   (z : xM)    : ∀ (n : Nat) (v1 : Int32) (v2 : Int32) (v3 : Int32) (m : xM), xR G yyH_orchestra (emic z) 76 [(0, .ref (xa G 81)), (1, .int v1), (2, .int v2), (3, .int v3)] [] (m, z) (fH_orchestra_l76  n v1 v2 v3 m) := by
  intro n
  induction n with
  | zero =>
    intro v1 v2 v3 m
    rw [fH_orchestra_l76]
    exact xR_none
  | succ n ih =>
    intro v1 v2 v3 m
    rw [fH_orchestra_l76]
    refine xR_iln 76 3 dH_orchestra_76 rfl rfl ?_
    refine xR_ic 77 (1 : Int32) dH_orchestra_77 (by decide) ?_
    refine xR_iln 78 1 dH_orchestra_78 rfl rfl ?_
    refine xR_ishl 79 dH_orchestra_79 ?_
    refine xR_icge 80 110 dH_orchestra_80 (by decide) ?_ ?_
    · refine xR_iln 110 2 dH_orchestra_110 rfl rfl ?_
      exact xR_iret 111 rfl rfl dH_orchestra_111
    · refine xR_iln 83 3 dH_orchestra_83 rfl rfl ?_
      refine xR_callSi 84 cs_J_bitCount ml_RX8_203 ⟨Nat.le_of_ble_eq_true rfl, Nat.le_of_ble_eq_true rfl⟩ [.int v3] rfl rfl (Nat.le_of_ble_eq_true rfl) dH_orchestra_84 (kJ_bitCount G (m, z) v3) (fun r84 => ?_)
      refine xR_iln 87 2 dH_orchestra_87 rfl rfl ?_
      refine xR_callSi 88 cs_J_bitCount ml_RX8_203 ⟨Nat.le_of_ble_eq_true rfl, Nat.le_of_ble_eq_true rfl⟩ [.int v2] rfl rfl (Nat.le_of_ble_eq_true rfl) dH_orchestra_88 (kJ_bitCount G (m, z) v2) (fun r88 => ?_)
      refine xR_icle 91 104 dH_orchestra_91 (by decide) ?_ ?_
      · exact kH_orchestra_b104 G z (fH_orchestra_l76 n) ih v1 v2 v3 m
      · refine xR_aln 94 0 dH_orchestra_94 rfl rfl ?_
        refine xR_iln 95 3 dH_orchestra_95 rfl rfl ?_
        refine xR_callVi 96 cv_H_areFriends ml_RX8_231 ⟨Nat.le_of_ble_eq_true rfl, Nat.le_of_ble_eq_true rfl⟩ xcf6 rfl 81 (by decide) rfl [.int v3] rfl rfl (Nat.le_of_ble_eq_true rfl) dH_orchestra_96 (kH_areFriends G z m v3) (fun r96 => ?_)
        refine xR_ifeq 99 104 dH_orchestra_99 (by decide) ?_ ?_
        · exact kH_orchestra_b104 G z (fH_orchestra_l76 n) ih v1 v2 v3 m
        · refine xR_iln 102 3 dH_orchestra_102 rfl rfl ?_
          refine xR_isn 103 ([(2, .int v3), (0, .ref (xa G 81)), (1, .int v1), (3, .int v3)]) dH_orchestra_103 rfl (by decide) rfl ?_
          exact xR_sub [1, 2, 0, 3] rfl (kH_orchestra_b104 G z (fH_orchestra_l76 n) ih v1 v3 v3 m)
set_option maxRecDepth 100000 in
set_option maxHeartbeats 4000000 in
theorem kH_orchestra_l31 (G : xG)   (z : xM)  (k13 : Int32 → Int32 → xM → Option (Int32 × xM)) (hk13 : ∀ (v1 : Int32) (v2 : Int32) (m : xM), xR G yyH_orchestra (emic z) 13 [(0, .ref (xa G 81)), (1, .int v1), (2, .int v2)] [] (m, z) (k13 v1 v2 m)) : ∀ (n : Nat) (v1 : Int32) (v2 : Int32) (v3 : Int32) (v4 : Int32) (m : xM), xR G yyH_orchestra (emic z) 31 [(0, .ref (xa G 81)), (1, .int v1), (2, .int v2), (3, .int v3), (4, .int v4)] [] (m, z) (fH_orchestra_l31 k13 n v1 v2 v3 v4 m) := by
  intro n
  induction n with
  | zero =>
    intro v1 v2 v3 v4 m
    rw [fH_orchestra_l31]
    exact xR_none
  | succ n ih =>
    intro v1 v2 v3 v4 m
    rw [fH_orchestra_l31]
    refine xR_il 31 4 dH_orchestra_31 rfl ?_
    refine xR_ic 33 (4 : Int32) dH_orchestra_33 (by decide) ?_
    refine xR_icge 34 56 dH_orchestra_34 (by decide) ?_ ?_
    · refine xR_aln 56 0 dH_orchestra_56 rfl rfl ?_
      refine xR_getf 57 xcf6 8 81 (by decide) (by decide) rfl (v := .ref (xa G 71)) rfl fl_RX8_61 dH_orchestra_57 ?_
      refine xR_iln 60 2 dH_orchestra_60 rfl rfl ?_
      refine xR_ic 61 (0 : Int32) dH_orchestra_61 (by decide) ?_
      refine xR_iln 62 3 dH_orchestra_62 rfl rfl ?_
      refine xR_callVvc 63 cv_T_put ml_RX8_91 ⟨Nat.le_of_ble_eq_true rfl, Nat.le_of_ble_eq_true rfl⟩ xcf3 rfl 71 (by decide) (xC_tab (t := 35) (by decide)) [.int v2, .int (0 : Int32), .int v3] rfl rfl (Nat.le_of_ble_eq_true rfl) dH_orchestra_63 (kT_put G 35 (by decide) z m v2 (0 : Int32) v3) (fun r63 => ?_)
      refine xR_iinc 66 2 (v2 + 1) ([(2, .int (v2 + 1)), (0, .ref (xa G 81)), (1, .int v1), (3, .int v3), (4, .int v4)]) dH_orchestra_66 rfl rfl (by decide) rfl ?_
      refine xR_goto 69 13 dH_orchestra_69 (by decide) ?_
      exact xR_sub [1, 2, 0] rfl (hk13 v1 (v2 + 1) r63)
    · refine xR_iln 37 3 dH_orchestra_37 rfl rfl ?_
      refine xR_aln 38 0 dH_orchestra_38 rfl rfl ?_
      refine xR_getf 39 xcf6 0 81 (by decide) (by decide) rfl (v := .ref (xa G 77)) rfl fl_RX8_10 dH_orchestra_39 ?_
      refine xR_iln 42 2 dH_orchestra_42 rfl rfl ?_
      refine xR_il 43 4 dH_orchestra_43 rfl ?_
      refine xR_callVi 45 cv_W_likeOnes ml_RX8_228 ⟨Nat.le_of_ble_eq_true rfl, Nat.le_of_ble_eq_true rfl⟩ xcf5 rfl 77 (by decide) (xC_twn (t := 0) (by decide)) [.int v2, .int v4] rfl rfl (Nat.le_of_ble_eq_true rfl) dH_orchestra_45 (kW_likeOnes G 0 (by decide) z m v2 v4) (fun r45 => ?_)
      refine xR_iand 48 dH_orchestra_48 ?_
      refine xR_isn 49 ([(3, .int (v3 &&& r45)), (0, .ref (xa G 81)), (1, .int v1), (2, .int v2), (4, .int v4)]) dH_orchestra_49 rfl (by decide) rfl ?_
      refine xR_iinc 50 4 (v4 + 1) ([(4, .int (v4 + 1)), (3, .int (v3 &&& r45)), (0, .ref (xa G 81)), (1, .int v1), (2, .int v2)]) dH_orchestra_50 rfl rfl (by decide) rfl ?_
      refine xR_goto 53 31 dH_orchestra_53 (by decide) ?_
      exact xR_sub [2, 3, 4, 1, 0] rfl (ih v1 v2 (v3 &&& r45) (v4 + 1) m)
set_option maxRecDepth 100000 in
set_option maxHeartbeats 4000000 in
theorem kH_orchestra_l13 (G : xG)   (z : xM)    : ∀ (n : Nat) (v1 : Int32) (v2 : Int32) (m : xM), xR G yyH_orchestra (emic z) 13 [(0, .ref (xa G 81)), (1, .int v1), (2, .int v2)] [] (m, z) (fH_orchestra_l13  n v1 v2 m) := by
  intro n
  induction n with
  | zero =>
    intro v1 v2 m
    rw [fH_orchestra_l13]
    exact xR_none
  | succ n ih =>
    intro v1 v2 m
    rw [fH_orchestra_l13]
    refine xR_iln 13 2 dH_orchestra_13 rfl rfl ?_
    refine xR_iln 14 1 dH_orchestra_14 rfl rfl ?_
    refine xR_icge 15 72 dH_orchestra_15 (by decide) ?_ ?_
    · refine xR_ic 72 (0 : Int32) dH_orchestra_72 (by decide) ?_
      refine xR_isn 73 ([(2, .int (0 : Int32)), (0, .ref (xa G 81)), (1, .int v1)]) dH_orchestra_73 rfl (by decide) rfl ?_
      refine xR_ic 74 (1 : Int32) dH_orchestra_74 (by decide) ?_
      refine xR_isn 75 ([(3, .int (1 : Int32)), (2, .int (0 : Int32)), (0, .ref (xa G 81)), (1, .int v1)]) dH_orchestra_75 rfl (by decide) rfl ?_
      exact xR_sub [2, 3, 1, 0] rfl (kH_orchestra_l76 G z xfu v1 (0 : Int32) (1 : Int32) m)
    · refine xR_aln 18 0 dH_orchestra_18 rfl rfl ?_
      refine xR_getf 19 xcf6 0 81 (by decide) (by decide) rfl (v := .ref (xa G 77)) rfl fl_RX8_10 dH_orchestra_19 ?_
      refine xR_iln 22 2 dH_orchestra_22 rfl rfl ?_
      refine xR_ic 23 (0 : Int32) dH_orchestra_23 (by decide) ?_
      refine xR_callVi 24 cv_W_likeOnes ml_RX8_228 ⟨Nat.le_of_ble_eq_true rfl, Nat.le_of_ble_eq_true rfl⟩ xcf5 rfl 77 (by decide) (xC_twn (t := 0) (by decide)) [.int v2, .int (0 : Int32)] rfl rfl (Nat.le_of_ble_eq_true rfl) dH_orchestra_24 (kW_likeOnes G 0 (by decide) z m v2 (0 : Int32)) (fun r24 => ?_)
      refine xR_isn 27 ([(3, .int r24), (0, .ref (xa G 81)), (1, .int v1), (2, .int v2)]) dH_orchestra_27 rfl (by decide) rfl ?_
      refine xR_ic 28 (1 : Int32) dH_orchestra_28 (by decide) ?_
      refine xR_is 29 ([(4, .int (1 : Int32)), (3, .int r24), (0, .ref (xa G 81)), (1, .int v1), (2, .int v2)]) dH_orchestra_29 (by decide) rfl ?_
      exact xR_sub [2, 3, 4, 1, 0] rfl (kH_orchestra_l31 G z (fH_orchestra_l13 n) ih xfu v1 v2 r24 (1 : Int32) m)
set_option maxRecDepth 100000 in
set_option maxHeartbeats 4000000 in
theorem kH_orchestra (G : xG)   (z : xM) (m : xM) : ∀ a, fH_orchestra  m = some a → xCt G yyH_orchestra [.ref (xa G 81)] (m, z) (some (.int a.1)) (a.2, z) := by
  refine xR_ct (em := (emic z)) rfl (Nat.le_of_ble_eq_true rfl) ?_
  show xR G yyH_orchestra _ 0 [(0, .ref (xa G 81))] [] _ _
  unfold fH_orchestra
  refine xR_aln 0 0 dH_orchestra_0 rfl rfl ?_
  refine xR_getf 1 xcf6 0 81 (by decide) (by decide) rfl (v := .ref (xa G 77)) rfl fl_RX8_10 dH_orchestra_1 ?_
  refine xR_getf 4 xcf5 3 77 (by decide) (by decide) (xC_twn (t := 0) (by decide)) (v := .ref (xa G 39)) rfl fl_RX8_110 dH_orchestra_4 ?_
  refine xR_callVi 7 cv_T_many ml_RX8_113 ⟨Nat.le_of_ble_eq_true rfl, Nat.le_of_ble_eq_true rfl⟩ xcf3 rfl 39 (by decide) (xC_tab (t := 3) (by decide)) [] rfl rfl (Nat.le_of_ble_eq_true rfl) dH_orchestra_7 (kT_many G 3 (by decide) z m) (fun r7 => ?_)
  refine xR_isn 10 ([(1, .int r7), (0, .ref (xa G 81))]) dH_orchestra_10 rfl (by decide) rfl ?_
  refine xR_ic 11 (0 : Int32) dH_orchestra_11 (by decide) ?_
  refine xR_isn 12 ([(2, .int (0 : Int32)), (1, .int r7), (0, .ref (xa G 81))]) dH_orchestra_12 rfl (by decide) rfl ?_
  exact xR_sub [2, 1, 0] rfl (kH_orchestra_l13 G z xfu r7 (0 : Int32) m)
theorem dH_heard_0 : decode (xb yyH_heard) 0 = .ok (.iload_n 1, 1) := by decide +kernel
theorem dH_heard_1 : decode (xb yyH_heard) 1 = .ok (.invokestatic 176, 3) := by decide +kernel
theorem dH_heard_4 : decode (xb yyH_heard) 4 = .ok (.ifCond .eq 13, 3) := by decide +kernel
theorem dH_heard_7 : decode (xb yyH_heard) 7 = .ok (.iload_n 2, 1) := by decide +kernel
theorem dH_heard_8 : decode (xb yyH_heard) 8 = .ok (.iconst 0, 1) := by decide +kernel
theorem dH_heard_9 : decode (xb yyH_heard) 9 = .ok (.bipush 60, 2) := by decide +kernel
theorem dH_heard_11 : decode (xb yyH_heard) 11 = .ok (.invokestatic 78, 3) := by decide +kernel
theorem dH_heard_14 : decode (xb yyH_heard) 14 = .ok (.ifCond .ne 8, 3) := by decide +kernel
theorem dH_heard_17 : decode (xb yyH_heard) 17 = .ok (.aload_n 0, 1) := by decide +kernel
theorem dH_heard_18 : decode (xb yyH_heard) 18 = .ok (.invokevirtual 82, 3) := by decide +kernel
theorem dH_heard_21 : decode (xb yyH_heard) 21 = .ok (.ireturn, 1) := by decide +kernel
theorem dH_heard_22 : decode (xb yyH_heard) 22 = .ok (.aload_n 0, 1) := by decide +kernel
theorem dH_heard_23 : decode (xb yyH_heard) 23 = .ok (.getfield 10, 3) := by decide +kernel
theorem dH_heard_26 : decode (xb yyH_heard) 26 = .ok (.getfield 234, 3) := by decide +kernel
theorem dH_heard_29 : decode (xb yyH_heard) 29 = .ok (.invokevirtual 127, 3) := by decide +kernel
theorem dH_heard_32 : decode (xb yyH_heard) 32 = .ok (.istore_n 3, 1) := by decide +kernel
theorem dH_heard_33 : decode (xb yyH_heard) 33 = .ok (.iload_n 3, 1) := by decide +kernel
theorem dH_heard_34 : decode (xb yyH_heard) 34 = .ok (.iconst (-1), 1) := by decide +kernel
theorem dH_heard_35 : decode (xb yyH_heard) 35 = .ok (.if_icmp .ne 8, 3) := by decide +kernel
theorem dH_heard_38 : decode (xb yyH_heard) 38 = .ok (.aload_n 0, 1) := by decide +kernel
theorem dH_heard_39 : decode (xb yyH_heard) 39 = .ok (.invokevirtual 103, 3) := by decide +kernel
theorem dH_heard_42 : decode (xb yyH_heard) 42 = .ok (.ireturn, 1) := by decide +kernel
theorem dH_heard_43 : decode (xb yyH_heard) 43 = .ok (.aload_n 0, 1) := by decide +kernel
theorem dH_heard_44 : decode (xb yyH_heard) 44 = .ok (.getfield 10, 3) := by decide +kernel
theorem dH_heard_47 : decode (xb yyH_heard) 47 = .ok (.getfield 234, 3) := by decide +kernel
theorem dH_heard_50 : decode (xb yyH_heard) 50 = .ok (.iload_n 3, 1) := by decide +kernel
theorem dH_heard_51 : decode (xb yyH_heard) 51 = .ok (.iconst 0, 1) := by decide +kernel
theorem dH_heard_52 : decode (xb yyH_heard) 52 = .ok (.iload_n 1, 1) := by decide +kernel
theorem dH_heard_53 : decode (xb yyH_heard) 53 = .ok (.invokevirtual 91, 3) := by decide +kernel
theorem dH_heard_56 : decode (xb yyH_heard) 56 = .ok (.aload_n 0, 1) := by decide +kernel
theorem dH_heard_57 : decode (xb yyH_heard) 57 = .ok (.getfield 10, 3) := by decide +kernel
theorem dH_heard_60 : decode (xb yyH_heard) 60 = .ok (.getfield 234, 3) := by decide +kernel
theorem dH_heard_63 : decode (xb yyH_heard) 63 = .ok (.iload_n 3, 1) := by decide +kernel
theorem dH_heard_64 : decode (xb yyH_heard) 64 = .ok (.iconst 1, 1) := by decide +kernel
theorem dH_heard_65 : decode (xb yyH_heard) 65 = .ok (.iload_n 2, 1) := by decide +kernel
theorem dH_heard_66 : decode (xb yyH_heard) 66 = .ok (.invokevirtual 91, 3) := by decide +kernel
theorem dH_heard_69 : decode (xb yyH_heard) 69 = .ok (.aload_n 0, 1) := by decide +kernel
theorem dH_heard_70 : decode (xb yyH_heard) 70 = .ok (.getfield 10, 3) := by decide +kernel
theorem dH_heard_73 : decode (xb yyH_heard) 73 = .ok (.getfield 234, 3) := by decide +kernel
theorem dH_heard_76 : decode (xb yyH_heard) 76 = .ok (.invokevirtual 113, 3) := by decide +kernel
theorem dH_heard_79 : decode (xb yyH_heard) 79 = .ok (.ireturn, 1) := by decide +kernel
def fH_heard  (v1 : Int32) (v2 : Int32) (m : xM) : Option (Int32 × xM) := (fH_isString v1).bind fun r1 => (if r1 = 0 then (fH_bad m).bind fun r18 => some (r18.1, r18.2) else (fH_within v2 (0 : Int32) (60 : Int32)).bind fun r11 => (if r11 = 0 then (fH_bad m).bind fun r18 => some (r18.1, r18.2) else (fT_newRow 4 m).bind fun r29 => (if r29.1 = (-1 : Int32) then (fH_full r29.2).bind fun r39 => some (r39.1, r39.2) else (fT_put 4 r29.1 (0 : Int32) v1 r29.2).bind fun r53 => (fT_put 4 r29.1 (1 : Int32) v2 r53).bind fun r66 => (fT_many 4 r66).bind fun r76 => some (r76, r66))))
set_option maxRecDepth 100000 in
set_option maxHeartbeats 4000000 in
theorem kH_heard (G : xG)   (z : xM) (m : xM) (v1 : Int32) (v2 : Int32) : ∀ a, fH_heard  v1 v2 m = some a → xCt G yyH_heard [.ref (xa G 81), .int v1, .int v2] (m, z) (some (.int a.1)) (a.2, z) := by
  refine xR_ct (em := (emic z)) rfl (Nat.le_of_ble_eq_true rfl) ?_
  show xR G yyH_heard _ 0 [(0, .ref (xa G 81)), (1, .int v1), (2, .int v2)] [] _ _
  unfold fH_heard
  refine xR_iln 0 1 dH_heard_0 rfl rfl ?_
  refine xR_callSi 1 cs_H_isString ml_RX8_176 ⟨Nat.le_of_ble_eq_true rfl, Nat.le_of_ble_eq_true rfl⟩ [.int v1] rfl rfl (Nat.le_of_ble_eq_true rfl) dH_heard_1 (kH_isString G (m, z) v1) (fun r1 => ?_)
  refine xR_ifeq 4 17 dH_heard_4 (by decide) ?_ ?_
  · refine xR_aln 17 0 dH_heard_17 rfl rfl ?_
    refine xR_callVic 18 cv_H_bad ml_RX8_82 ⟨Nat.le_of_ble_eq_true rfl, Nat.le_of_ble_eq_true rfl⟩ xcf6 rfl 81 (by decide) rfl [] rfl rfl (Nat.le_of_ble_eq_true rfl) dH_heard_18 (kH_bad G z m) (fun r18 => ?_)
    exact xR_iret 21 rfl rfl dH_heard_21
  · refine xR_iln 7 2 dH_heard_7 rfl rfl ?_
    refine xR_ic 8 (0 : Int32) dH_heard_8 (by decide) ?_
    refine xR_bp 9 (60 : Int32) dH_heard_9 (by decide) ?_
    refine xR_callSi 11 cs_H_within ml_RX8_78 ⟨Nat.le_of_ble_eq_true rfl, Nat.le_of_ble_eq_true rfl⟩ [.int v2, .int (0 : Int32), .int (60 : Int32)] rfl rfl (Nat.le_of_ble_eq_true rfl) dH_heard_11 (kH_within G (m, z) v2 (0 : Int32) (60 : Int32)) (fun r11 => ?_)
    refine xR_ifne 14 22 dH_heard_14 (by decide) ?_ ?_
    · refine xR_aln 22 0 dH_heard_22 rfl rfl ?_
      refine xR_getf 23 xcf6 0 81 (by decide) (by decide) rfl (v := .ref (xa G 77)) rfl fl_RX8_10 dH_heard_23 ?_
      refine xR_getf 26 xcf5 4 77 (by decide) (by decide) (xC_twn (t := 0) (by decide)) (v := .ref (xa G 40)) rfl fl_RX8_234 dH_heard_26 ?_
      refine xR_callVic 29 cv_T_newRow ml_RX8_127 ⟨Nat.le_of_ble_eq_true rfl, Nat.le_of_ble_eq_true rfl⟩ xcf3 rfl 40 (by decide) (xC_tab (t := 4) (by decide)) [] rfl rfl (Nat.le_of_ble_eq_true rfl) dH_heard_29 (kT_newRow G 4 (by decide) z m) (fun r29 => ?_)
      refine xR_isn 32 ([(3, .int r29.1), (0, .ref (xa G 81)), (1, .int v1), (2, .int v2)]) dH_heard_32 rfl (by decide) rfl ?_
      refine xR_iln 33 0 dH_heard_33 rfl rfl ?_
      refine xR_ic 34 (-1 : Int32) dH_heard_34 (by decide) ?_
      refine xR_icne 35 43 dH_heard_35 (by decide) ?_ ?_
      · refine xR_aln 43 1 dH_heard_43 rfl rfl ?_
        refine xR_getf 44 xcf6 0 81 (by decide) (by decide) rfl (v := .ref (xa G 77)) rfl fl_RX8_10 dH_heard_44 ?_
        refine xR_getf 47 xcf5 4 77 (by decide) (by decide) (xC_twn (t := 0) (by decide)) (v := .ref (xa G 40)) rfl fl_RX8_234 dH_heard_47 ?_
        refine xR_iln 50 0 dH_heard_50 rfl rfl ?_
        refine xR_ic 51 (0 : Int32) dH_heard_51 (by decide) ?_
        refine xR_iln 52 2 dH_heard_52 rfl rfl ?_
        refine xR_callVvc 53 cv_T_put ml_RX8_91 ⟨Nat.le_of_ble_eq_true rfl, Nat.le_of_ble_eq_true rfl⟩ xcf3 rfl 40 (by decide) (xC_tab (t := 4) (by decide)) [.int r29.1, .int (0 : Int32), .int v1] rfl rfl (Nat.le_of_ble_eq_true rfl) dH_heard_53 (kT_put G 4 (by decide) z r29.2 r29.1 (0 : Int32) v1) (fun r53 => ?_)
        refine xR_aln 56 1 dH_heard_56 rfl rfl ?_
        refine xR_getf 57 xcf6 0 81 (by decide) (by decide) rfl (v := .ref (xa G 77)) rfl fl_RX8_10 dH_heard_57 ?_
        refine xR_getf 60 xcf5 4 77 (by decide) (by decide) (xC_twn (t := 0) (by decide)) (v := .ref (xa G 40)) rfl fl_RX8_234 dH_heard_60 ?_
        refine xR_iln 63 0 dH_heard_63 rfl rfl ?_
        refine xR_ic 64 (1 : Int32) dH_heard_64 (by decide) ?_
        refine xR_iln 65 3 dH_heard_65 rfl rfl ?_
        refine xR_callVvc 66 cv_T_put ml_RX8_91 ⟨Nat.le_of_ble_eq_true rfl, Nat.le_of_ble_eq_true rfl⟩ xcf3 rfl 40 (by decide) (xC_tab (t := 4) (by decide)) [.int r29.1, .int (1 : Int32), .int v2] rfl rfl (Nat.le_of_ble_eq_true rfl) dH_heard_66 (kT_put G 4 (by decide) z r53 r29.1 (1 : Int32) v2) (fun r66 => ?_)
        refine xR_aln 69 1 dH_heard_69 rfl rfl ?_
        refine xR_getf 70 xcf6 0 81 (by decide) (by decide) rfl (v := .ref (xa G 77)) rfl fl_RX8_10 dH_heard_70 ?_
        refine xR_getf 73 xcf5 4 77 (by decide) (by decide) (xC_twn (t := 0) (by decide)) (v := .ref (xa G 40)) rfl fl_RX8_234 dH_heard_73 ?_
        refine xR_callVi 76 cv_T_many ml_RX8_113 ⟨Nat.le_of_ble_eq_true rfl, Nat.le_of_ble_eq_true rfl⟩ xcf3 rfl 40 (by decide) (xC_tab (t := 4) (by decide)) [] rfl rfl (Nat.le_of_ble_eq_true rfl) dH_heard_76 (kT_many G 4 (by decide) z r66) (fun r76 => ?_)
        exact xR_iret 79 rfl rfl dH_heard_79
      · refine xR_aln 38 1 dH_heard_38 rfl rfl ?_
        refine xR_callVic 39 cv_H_full ml_RX8_103 ⟨Nat.le_of_ble_eq_true rfl, Nat.le_of_ble_eq_true rfl⟩ xcf6 rfl 81 (by decide) rfl [] rfl rfl (Nat.le_of_ble_eq_true rfl) dH_heard_39 (kH_full G z r29.2) (fun r39 => ?_)
        exact xR_iret 42 rfl rfl dH_heard_42
    · refine xR_aln 17 0 dH_heard_17 rfl rfl ?_
      refine xR_callVic 18 cv_H_bad ml_RX8_82 ⟨Nat.le_of_ble_eq_true rfl, Nat.le_of_ble_eq_true rfl⟩ xcf6 rfl 81 (by decide) rfl [] rfl rfl (Nat.le_of_ble_eq_true rfl) dH_heard_18 (kH_bad G z m) (fun r18 => ?_)
      exact xR_iret 21 rfl rfl dH_heard_21
theorem dH_whose_0 : decode (xb yyH_whose) 0 = .ok (.aload_n 0, 1) := by decide +kernel
theorem dH_whose_1 : decode (xb yyH_whose) 1 = .ok (.getfield 10, 3) := by decide +kernel
theorem dH_whose_4 : decode (xb yyH_whose) 4 = .ok (.invokevirtual 237, 3) := by decide +kernel
theorem dH_whose_7 : decode (xb yyH_whose) 7 = .ok (.ireturn, 1) := by decide +kernel
def fH_whose  (m : xM) : Option (Int32) := (fW_heardBoards 0 m).bind fun r4 => some r4
set_option maxRecDepth 100000 in
set_option maxHeartbeats 4000000 in
theorem kH_whose (G : xG)   (z : xM) (m : xM) : ∀ a, fH_whose m  = some a → xCt G yyH_whose [.ref (xa G 81)] (m, z) (some (.int a)) (m, z) := by
  refine xR_ct (em := (emi (m, z))) rfl (Nat.le_of_ble_eq_true rfl) ?_
  show xR G yyH_whose _ 0 [(0, .ref (xa G 81))] [] _ _
  unfold fH_whose
  refine xR_aln 0 0 dH_whose_0 rfl rfl ?_
  refine xR_getf 1 xcf6 0 81 (by decide) (by decide) rfl (v := .ref (xa G 77)) rfl fl_RX8_10 dH_whose_1 ?_
  refine xR_callVi 4 cv_W_heardBoards ml_RX8_237 ⟨Nat.le_of_ble_eq_true rfl, Nat.le_of_ble_eq_true rfl⟩ xcf5 rfl 77 (by decide) (xC_twn (t := 0) (by decide)) [] rfl rfl (Nat.le_of_ble_eq_true rfl) dH_whose_4 (kW_heardBoards G 0 (by decide) z m) (fun r4 => ?_)
  exact xR_iret 7 rfl rfl dH_whose_7
theorem dH_manyLike_0 : decode (xb yyH_manyLike) 0 = .ok (.iconst 0, 1) := by decide +kernel
theorem dH_manyLike_1 : decode (xb yyH_manyLike) 1 = .ok (.istore_n 3, 1) := by decide +kernel
theorem dH_manyLike_2 : decode (xb yyH_manyLike) 2 = .ok (.iconst 0, 1) := by decide +kernel
theorem dH_manyLike_3 : decode (xb yyH_manyLike) 3 = .ok (.istore 4, 2) := by decide +kernel
theorem dH_manyLike_5 : decode (xb yyH_manyLike) 5 = .ok (.iload 4, 2) := by decide +kernel
theorem dH_manyLike_7 : decode (xb yyH_manyLike) 7 = .ok (.aload_n 0, 1) := by decide +kernel
theorem dH_manyLike_8 : decode (xb yyH_manyLike) 8 = .ok (.getfield 58, 3) := by decide +kernel
theorem dH_manyLike_11 : decode (xb yyH_manyLike) 11 = .ok (.getfield 337, 3) := by decide +kernel
theorem dH_manyLike_14 : decode (xb yyH_manyLike) 14 = .ok (.if_icmp .ge 35, 3) := by decide +kernel
theorem dH_manyLike_17 : decode (xb yyH_manyLike) 17 = .ok (.iload_n 2, 1) := by decide +kernel
theorem dH_manyLike_18 : decode (xb yyH_manyLike) 18 = .ok (.iload 4, 2) := by decide +kernel
theorem dH_manyLike_20 : decode (xb yyH_manyLike) 20 = .ok (.invokestatic 331, 3) := by decide +kernel
theorem dH_manyLike_23 : decode (xb yyH_manyLike) 23 = .ok (.ifCond .eq 20, 3) := by decide +kernel
theorem dH_manyLike_26 : decode (xb yyH_manyLike) 26 = .ok (.aload_n 0, 1) := by decide +kernel
theorem dH_manyLike_27 : decode (xb yyH_manyLike) 27 = .ok (.getfield 58, 3) := by decide +kernel
theorem dH_manyLike_30 : decode (xb yyH_manyLike) 30 = .ok (.iload 4, 2) := by decide +kernel
theorem dH_manyLike_32 : decode (xb yyH_manyLike) 32 = .ok (.iconst 0, 1) := by decide +kernel
theorem dH_manyLike_33 : decode (xb yyH_manyLike) 33 = .ok (.invokevirtual 88, 3) := by decide +kernel
theorem dH_manyLike_36 : decode (xb yyH_manyLike) 36 = .ok (.iload_n 1, 1) := by decide +kernel
theorem dH_manyLike_37 : decode (xb yyH_manyLike) 37 = .ok (.if_icmp .ne 6, 3) := by decide +kernel
theorem dH_manyLike_40 : decode (xb yyH_manyLike) 40 = .ok (.iinc 3 1, 3) := by decide +kernel
theorem dH_manyLike_43 : decode (xb yyH_manyLike) 43 = .ok (.iinc 4 1, 3) := by decide +kernel
theorem dH_manyLike_46 : decode (xb yyH_manyLike) 46 = .ok (.goto (-41), 3) := by decide +kernel
theorem dH_manyLike_49 : decode (xb yyH_manyLike) 49 = .ok (.iload_n 3, 1) := by decide +kernel
theorem dH_manyLike_50 : decode (xb yyH_manyLike) 50 = .ok (.ireturn, 1) := by decide +kernel
def fH_manyLike_b43  (m : xM) (k5 : Int32 → Int32 → Int32 → Int32 → Option (Int32)) (v1 : Int32) (v2 : Int32) (v3 : Int32) (v4 : Int32) : Option (Int32) := k5 v1 v2 v3 (v4 + 1)
def fH_manyLike_l5  (m : xM) : Nat → Int32 → Int32 → Int32 → Int32 → Option (Int32)
  | 0, _, _, _, _ => none
  | n + 1, v1, v2, v3, v4 => (if (xrows 34) ≤ v4 then some v3 else (fH_holdsBit v2 v4).bind fun r20 => (if r20 = 0 then fH_manyLike_b43 m (fH_manyLike_l5 m n) v1 v2 v3 v4 else (fT_get 34 m v4 (0 : Int32)).bind fun r33 => (if r33 = v1 then fH_manyLike_b43 m (fH_manyLike_l5 m n) v1 v2 (v3 + 1) v4 else fH_manyLike_b43 m (fH_manyLike_l5 m n) v1 v2 v3 v4)))
def fH_manyLike  (m : xM) (v1 : Int32) (v2 : Int32) : Option (Int32) := fH_manyLike_l5 m xfu v1 v2 (0 : Int32) (0 : Int32)
set_option maxRecDepth 100000 in
set_option maxHeartbeats 4000000 in
theorem kH_manyLike_b43 (G : xG)   (z : xM) (m : xM) (k5 : Int32 → Int32 → Int32 → Int32 → Option (Int32)) (hk5 : ∀ (v1 : Int32) (v2 : Int32) (v3 : Int32) (v4 : Int32), xR G yyH_manyLike (emi (m, z)) 5 [(0, .ref (xa G 81)), (1, .int v1), (2, .int v2), (3, .int v3), (4, .int v4)] [] (m, z) (k5 v1 v2 v3 v4)) (v1 : Int32) (v2 : Int32) (v3 : Int32) (v4 : Int32) : xR G yyH_manyLike (emi (m, z)) 43 [(0, .ref (xa G 81)), (1, .int v1), (2, .int v2), (3, .int v3), (4, .int v4)] [] (m, z) (fH_manyLike_b43 m k5 v1 v2 v3 v4) := by
  unfold fH_manyLike_b43
  refine xR_iinc 43 4 (v4 + 1) ([(4, .int (v4 + 1)), (0, .ref (xa G 81)), (1, .int v1), (2, .int v2), (3, .int v3)]) dH_manyLike_43 rfl rfl (by decide) rfl ?_
  refine xR_goto 46 5 dH_manyLike_46 (by decide) ?_
  exact xR_sub [1, 2, 3, 4, 0] rfl (hk5 v1 v2 v3 (v4 + 1))
set_option maxRecDepth 100000 in
set_option maxHeartbeats 4000000 in
theorem kH_manyLike_l5 (G : xG)   (z : xM) (m : xM)   : ∀ (n : Nat) (v1 : Int32) (v2 : Int32) (v3 : Int32) (v4 : Int32), xR G yyH_manyLike (emi (m, z)) 5 [(0, .ref (xa G 81)), (1, .int v1), (2, .int v2), (3, .int v3), (4, .int v4)] [] (m, z) (fH_manyLike_l5 m n v1 v2 v3 v4) := by
  intro n
  induction n with
  | zero =>
    intro v1 v2 v3 v4
    rw [fH_manyLike_l5]
    exact xR_none
  | succ n ih =>
    intro v1 v2 v3 v4
    rw [fH_manyLike_l5]
    refine xR_il 5 4 dH_manyLike_5 rfl ?_
    refine xR_aln 7 0 dH_manyLike_7 rfl rfl ?_
    refine xR_getf 8 xcf6 7 81 (by decide) (by decide) rfl (v := .ref (xa G 70)) rfl fl_RX8_58 dH_manyLike_8 ?_
    refine xR_getf 11 xcf3 0 70 (by decide) (by decide) (xC_tab (t := 34) (by decide)) (v := .int (xrows 34)) rfl fl_RX8_337 dH_manyLike_11 ?_
    refine xR_icge 14 49 dH_manyLike_14 (by decide) ?_ ?_
    · refine xR_iln 49 3 dH_manyLike_49 rfl rfl ?_
      exact xR_iret 50 rfl rfl dH_manyLike_50
    · refine xR_iln 17 2 dH_manyLike_17 rfl rfl ?_
      refine xR_il 18 4 dH_manyLike_18 rfl ?_
      refine xR_callSi 20 cs_H_holdsBit ml_RX8_331 ⟨Nat.le_of_ble_eq_true rfl, Nat.le_of_ble_eq_true rfl⟩ [.int v2, .int v4] rfl rfl (Nat.le_of_ble_eq_true rfl) dH_manyLike_20 (kH_holdsBit G (m, z) v2 v4) (fun r20 => ?_)
      refine xR_ifeq 23 43 dH_manyLike_23 (by decide) ?_ ?_
      · exact kH_manyLike_b43 G z m (fH_manyLike_l5 m n) ih v1 v2 v3 v4
      · refine xR_aln 26 0 dH_manyLike_26 rfl rfl ?_
        refine xR_getf 27 xcf6 7 81 (by decide) (by decide) rfl (v := .ref (xa G 70)) rfl fl_RX8_58 dH_manyLike_27 ?_
        refine xR_il 30 4 dH_manyLike_30 rfl ?_
        refine xR_ic 32 (0 : Int32) dH_manyLike_32 (by decide) ?_
        refine xR_callVi 33 cv_T_get ml_RX8_88 ⟨Nat.le_of_ble_eq_true rfl, Nat.le_of_ble_eq_true rfl⟩ xcf3 rfl 70 (by decide) (xC_tab (t := 34) (by decide)) [.int v4, .int (0 : Int32)] rfl rfl (Nat.le_of_ble_eq_true rfl) dH_manyLike_33 (kT_get G 34 (by decide) z m v4 (0 : Int32)) (fun r33 => ?_)
        refine xR_iln 36 1 dH_manyLike_36 rfl rfl ?_
        refine xR_icne 37 43 dH_manyLike_37 (by decide) ?_ ?_
        · exact kH_manyLike_b43 G z m (fH_manyLike_l5 m n) ih v1 v2 v3 v4
        · refine xR_iinc 40 3 (v3 + 1) ([(3, .int (v3 + 1)), (0, .ref (xa G 81)), (1, .int v1), (2, .int v2), (4, .int v4)]) dH_manyLike_40 rfl rfl (by decide) rfl ?_
          exact xR_sub [1, 2, 3, 0, 4] rfl (kH_manyLike_b43 G z m (fH_manyLike_l5 m n) ih v1 v2 (v3 + 1) v4)
set_option maxRecDepth 100000 in
set_option maxHeartbeats 4000000 in
theorem kH_manyLike (G : xG)   (z : xM) (m : xM) (v1 : Int32) (v2 : Int32) : ∀ a, fH_manyLike m v1 v2 = some a → xCt G yyH_manyLike [.ref (xa G 81), .int v1, .int v2] (m, z) (some (.int a)) (m, z) := by
  refine xR_ct (em := (emi (m, z))) rfl (Nat.le_of_ble_eq_true rfl) ?_
  show xR G yyH_manyLike _ 0 [(0, .ref (xa G 81)), (1, .int v1), (2, .int v2)] [] _ _
  unfold fH_manyLike
  refine xR_ic 0 (0 : Int32) dH_manyLike_0 (by decide) ?_
  refine xR_isn 1 ([(3, .int (0 : Int32)), (0, .ref (xa G 81)), (1, .int v1), (2, .int v2)]) dH_manyLike_1 rfl (by decide) rfl ?_
  refine xR_ic 2 (0 : Int32) dH_manyLike_2 (by decide) ?_
  refine xR_is 3 ([(4, .int (0 : Int32)), (3, .int (0 : Int32)), (0, .ref (xa G 81)), (1, .int v1), (2, .int v2)]) dH_manyLike_3 (by decide) rfl ?_
  exact xR_sub [2, 3, 4, 1, 0] rfl (kH_manyLike_l5 G z m xfu v1 v2 (0 : Int32) (0 : Int32))
theorem dH_mostAlike_0 : decode (xb yyH_mostAlike) 0 = .ok (.iconst 0, 1) := by decide +kernel
theorem dH_mostAlike_1 : decode (xb yyH_mostAlike) 1 = .ok (.istore_n 2, 1) := by decide +kernel
theorem dH_mostAlike_2 : decode (xb yyH_mostAlike) 2 = .ok (.iconst 0, 1) := by decide +kernel
theorem dH_mostAlike_3 : decode (xb yyH_mostAlike) 3 = .ok (.istore_n 3, 1) := by decide +kernel
theorem dH_mostAlike_4 : decode (xb yyH_mostAlike) 4 = .ok (.iload_n 3, 1) := by decide +kernel
theorem dH_mostAlike_5 : decode (xb yyH_mostAlike) 5 = .ok (.aload_n 0, 1) := by decide +kernel
theorem dH_mostAlike_6 : decode (xb yyH_mostAlike) 6 = .ok (.getfield 58, 3) := by decide +kernel
theorem dH_mostAlike_9 : decode (xb yyH_mostAlike) 9 = .ok (.getfield 337, 3) := by decide +kernel
theorem dH_mostAlike_12 : decode (xb yyH_mostAlike) 12 = .ok (.if_icmp .ge 36, 3) := by decide +kernel
theorem dH_mostAlike_15 : decode (xb yyH_mostAlike) 15 = .ok (.iload_n 1, 1) := by decide +kernel
theorem dH_mostAlike_16 : decode (xb yyH_mostAlike) 16 = .ok (.iload_n 3, 1) := by decide +kernel
theorem dH_mostAlike_17 : decode (xb yyH_mostAlike) 17 = .ok (.invokestatic 331, 3) := by decide +kernel
theorem dH_mostAlike_20 : decode (xb yyH_mostAlike) 20 = .ok (.ifCond .eq 22, 3) := by decide +kernel
theorem dH_mostAlike_23 : decode (xb yyH_mostAlike) 23 = .ok (.iload_n 2, 1) := by decide +kernel
theorem dH_mostAlike_24 : decode (xb yyH_mostAlike) 24 = .ok (.aload_n 0, 1) := by decide +kernel
theorem dH_mostAlike_25 : decode (xb yyH_mostAlike) 25 = .ok (.aload_n 0, 1) := by decide +kernel
theorem dH_mostAlike_26 : decode (xb yyH_mostAlike) 26 = .ok (.getfield 58, 3) := by decide +kernel
theorem dH_mostAlike_29 : decode (xb yyH_mostAlike) 29 = .ok (.iload_n 3, 1) := by decide +kernel
theorem dH_mostAlike_30 : decode (xb yyH_mostAlike) 30 = .ok (.iconst 0, 1) := by decide +kernel
theorem dH_mostAlike_31 : decode (xb yyH_mostAlike) 31 = .ok (.invokevirtual 88, 3) := by decide +kernel
theorem dH_mostAlike_34 : decode (xb yyH_mostAlike) 34 = .ok (.iload_n 1, 1) := by decide +kernel
theorem dH_mostAlike_35 : decode (xb yyH_mostAlike) 35 = .ok (.invokevirtual 340, 3) := by decide +kernel
theorem dH_mostAlike_38 : decode (xb yyH_mostAlike) 38 = .ok (.invokestatic 52, 3) := by decide +kernel
theorem dH_mostAlike_41 : decode (xb yyH_mostAlike) 41 = .ok (.istore_n 2, 1) := by decide +kernel
theorem dH_mostAlike_42 : decode (xb yyH_mostAlike) 42 = .ok (.iinc 3 1, 3) := by decide +kernel
theorem dH_mostAlike_45 : decode (xb yyH_mostAlike) 45 = .ok (.goto (-41), 3) := by decide +kernel
theorem dH_mostAlike_48 : decode (xb yyH_mostAlike) 48 = .ok (.iload_n 2, 1) := by decide +kernel
theorem dH_mostAlike_49 : decode (xb yyH_mostAlike) 49 = .ok (.ireturn, 1) := by decide +kernel
def fH_mostAlike_b42  (m : xM) (k4 : Int32 → Int32 → Int32 → Option (Int32)) (v1 : Int32) (v2 : Int32) (v3 : Int32) : Option (Int32) := k4 v1 v2 (v3 + 1)
def fH_mostAlike_l4  (m : xM) : Nat → Int32 → Int32 → Int32 → Option (Int32)
  | 0, _, _, _ => none
  | n + 1, v1, v2, v3 => (if (xrows 34) ≤ v3 then some v2 else (fH_holdsBit v1 v3).bind fun r17 => (if r17 = 0 then fH_mostAlike_b42 m (fH_mostAlike_l4 m n) v1 v2 v3 else (fT_get 34 m v3 (0 : Int32)).bind fun r31 => (fH_manyLike m r31 v1).bind fun r35 => fH_mostAlike_b42 m (fH_mostAlike_l4 m n) v1 (xmax v2 r35) v3))
def fH_mostAlike  (m : xM) (v1 : Int32) : Option (Int32) := fH_mostAlike_l4 m xfu v1 (0 : Int32) (0 : Int32)
set_option maxRecDepth 100000 in
set_option maxHeartbeats 4000000 in
theorem kH_mostAlike_b42 (G : xG)   (z : xM) (m : xM) (k4 : Int32 → Int32 → Int32 → Option (Int32)) (hk4 : ∀ (v1 : Int32) (v2 : Int32) (v3 : Int32), xR G yyH_mostAlike (emi (m, z)) 4 [(0, .ref (xa G 81)), (1, .int v1), (2, .int v2), (3, .int v3)] [] (m, z) (k4 v1 v2 v3)) (v1 : Int32) (v2 : Int32) (v3 : Int32) : xR G yyH_mostAlike (emi (m, z)) 42 [(0, .ref (xa G 81)), (1, .int v1), (2, .int v2), (3, .int v3)] [] (m, z) (fH_mostAlike_b42 m k4 v1 v2 v3) := by
  unfold fH_mostAlike_b42
  refine xR_iinc 42 3 (v3 + 1) ([(3, .int (v3 + 1)), (0, .ref (xa G 81)), (1, .int v1), (2, .int v2)]) dH_mostAlike_42 rfl rfl (by decide) rfl ?_
  refine xR_goto 45 4 dH_mostAlike_45 (by decide) ?_
  exact xR_sub [1, 2, 3, 0] rfl (hk4 v1 v2 (v3 + 1))
set_option maxRecDepth 100000 in
set_option maxHeartbeats 4000000 in
theorem kH_mostAlike_l4 (G : xG)   (z : xM) (m : xM)   : ∀ (n : Nat) (v1 : Int32) (v2 : Int32) (v3 : Int32), xR G yyH_mostAlike (emi (m, z)) 4 [(0, .ref (xa G 81)), (1, .int v1), (2, .int v2), (3, .int v3)] [] (m, z) (fH_mostAlike_l4 m n v1 v2 v3) := by
  intro n
  induction n with
  | zero =>
    intro v1 v2 v3
    rw [fH_mostAlike_l4]
    exact xR_none
  | succ n ih =>
    intro v1 v2 v3
    rw [fH_mostAlike_l4]
    refine xR_iln 4 3 dH_mostAlike_4 rfl rfl ?_
    refine xR_aln 5 0 dH_mostAlike_5 rfl rfl ?_
    refine xR_getf 6 xcf6 7 81 (by decide) (by decide) rfl (v := .ref (xa G 70)) rfl fl_RX8_58 dH_mostAlike_6 ?_
    refine xR_getf 9 xcf3 0 70 (by decide) (by decide) (xC_tab (t := 34) (by decide)) (v := .int (xrows 34)) rfl fl_RX8_337 dH_mostAlike_9 ?_
    refine xR_icge 12 48 dH_mostAlike_12 (by decide) ?_ ?_
    · refine xR_iln 48 2 dH_mostAlike_48 rfl rfl ?_
      exact xR_iret 49 rfl rfl dH_mostAlike_49
    · refine xR_iln 15 1 dH_mostAlike_15 rfl rfl ?_
      refine xR_iln 16 3 dH_mostAlike_16 rfl rfl ?_
      refine xR_callSi 17 cs_H_holdsBit ml_RX8_331 ⟨Nat.le_of_ble_eq_true rfl, Nat.le_of_ble_eq_true rfl⟩ [.int v1, .int v3] rfl rfl (Nat.le_of_ble_eq_true rfl) dH_mostAlike_17 (kH_holdsBit G (m, z) v1 v3) (fun r17 => ?_)
      refine xR_ifeq 20 42 dH_mostAlike_20 (by decide) ?_ ?_
      · exact kH_mostAlike_b42 G z m (fH_mostAlike_l4 m n) ih v1 v2 v3
      · refine xR_iln 23 2 dH_mostAlike_23 rfl rfl ?_
        refine xR_aln 24 0 dH_mostAlike_24 rfl rfl ?_
        refine xR_aln 25 0 dH_mostAlike_25 rfl rfl ?_
        refine xR_getf 26 xcf6 7 81 (by decide) (by decide) rfl (v := .ref (xa G 70)) rfl fl_RX8_58 dH_mostAlike_26 ?_
        refine xR_iln 29 3 dH_mostAlike_29 rfl rfl ?_
        refine xR_ic 30 (0 : Int32) dH_mostAlike_30 (by decide) ?_
        refine xR_callVi 31 cv_T_get ml_RX8_88 ⟨Nat.le_of_ble_eq_true rfl, Nat.le_of_ble_eq_true rfl⟩ xcf3 rfl 70 (by decide) (xC_tab (t := 34) (by decide)) [.int v3, .int (0 : Int32)] rfl rfl (Nat.le_of_ble_eq_true rfl) dH_mostAlike_31 (kT_get G 34 (by decide) z m v3 (0 : Int32)) (fun r31 => ?_)
        refine xR_iln 34 1 dH_mostAlike_34 rfl rfl ?_
        refine xR_callVi 35 cv_H_manyLike ml_RX8_340 ⟨Nat.le_of_ble_eq_true rfl, Nat.le_of_ble_eq_true rfl⟩ xcf6 rfl 81 (by decide) rfl [.int r31, .int v1] rfl rfl (Nat.le_of_ble_eq_true rfl) dH_mostAlike_35 (kH_manyLike G z m r31 v1) (fun r35 => ?_)
        refine xR_mmax 38 ml_RX8_52 ⟨Nat.le_of_ble_eq_true rfl, Nat.le_of_ble_eq_true rfl⟩ dH_mostAlike_38 ?_
        refine xR_isn 41 ([(2, .int (xmax v2 r35)), (0, .ref (xa G 81)), (1, .int v1), (3, .int v3)]) dH_mostAlike_41 rfl (by decide) rfl ?_
        exact xR_sub [1, 2, 0, 3] rfl (kH_mostAlike_b42 G z m (fH_mostAlike_l4 m n) ih v1 (xmax v2 r35) v3)
set_option maxRecDepth 100000 in
set_option maxHeartbeats 4000000 in
theorem kH_mostAlike (G : xG)   (z : xM) (m : xM) (v1 : Int32) : ∀ a, fH_mostAlike m v1 = some a → xCt G yyH_mostAlike [.ref (xa G 81), .int v1] (m, z) (some (.int a)) (m, z) := by
  refine xR_ct (em := (emi (m, z))) rfl (Nat.le_of_ble_eq_true rfl) ?_
  show xR G yyH_mostAlike _ 0 [(0, .ref (xa G 81)), (1, .int v1)] [] _ _
  unfold fH_mostAlike
  refine xR_ic 0 (0 : Int32) dH_mostAlike_0 (by decide) ?_
  refine xR_isn 1 ([(2, .int (0 : Int32)), (0, .ref (xa G 81)), (1, .int v1)]) dH_mostAlike_1 rfl (by decide) rfl ?_
  refine xR_ic 2 (0 : Int32) dH_mostAlike_2 (by decide) ?_
  refine xR_isn 3 ([(3, .int (0 : Int32)), (2, .int (0 : Int32)), (0, .ref (xa G 81)), (1, .int v1)]) dH_mostAlike_3 rfl (by decide) rfl ?_
  exact xR_sub [2, 3, 1, 0] rfl (kH_mostAlike_l4 G z m xfu v1 (0 : Int32) (0 : Int32))
theorem dH_tells_0 : decode (xb yyH_tells) 0 = .ok (.aload_n 0, 1) := by decide +kernel
theorem dH_tells_1 : decode (xb yyH_tells) 1 = .ok (.getfield 10, 3) := by decide +kernel
theorem dH_tells_4 : decode (xb yyH_tells) 4 = .ok (.invokevirtual 237, 3) := by decide +kernel
theorem dH_tells_7 : decode (xb yyH_tells) 7 = .ok (.istore_n 1, 1) := by decide +kernel
theorem dH_tells_8 : decode (xb yyH_tells) 8 = .ok (.iconst (-1), 1) := by decide +kernel
theorem dH_tells_9 : decode (xb yyH_tells) 9 = .ok (.istore_n 2, 1) := by decide +kernel
theorem dH_tells_10 : decode (xb yyH_tells) 10 = .ok (.bipush 7, 2) := by decide +kernel
theorem dH_tells_12 : decode (xb yyH_tells) 12 = .ok (.istore_n 3, 1) := by decide +kernel
theorem dH_tells_13 : decode (xb yyH_tells) 13 = .ok (.iconst 0, 1) := by decide +kernel
theorem dH_tells_14 : decode (xb yyH_tells) 14 = .ok (.istore 4, 2) := by decide +kernel
theorem dH_tells_16 : decode (xb yyH_tells) 16 = .ok (.iload 4, 2) := by decide +kernel
theorem dH_tells_18 : decode (xb yyH_tells) 18 = .ok (.iconst 4, 1) := by decide +kernel
theorem dH_tells_19 : decode (xb yyH_tells) 19 = .ok (.if_icmp .ge 80, 3) := by decide +kernel
theorem dH_tells_22 : decode (xb yyH_tells) 22 = .ok (.iload_n 1, 1) := by decide +kernel
theorem dH_tells_23 : decode (xb yyH_tells) 23 = .ok (.ifCond .eq 76, 3) := by decide +kernel
theorem dH_tells_26 : decode (xb yyH_tells) 26 = .ok (.iconst 0, 1) := by decide +kernel
theorem dH_tells_27 : decode (xb yyH_tells) 27 = .ok (.istore 5, 2) := by decide +kernel
theorem dH_tells_29 : decode (xb yyH_tells) 29 = .ok (.iload 5, 2) := by decide +kernel
theorem dH_tells_31 : decode (xb yyH_tells) 31 = .ok (.aload_n 0, 1) := by decide +kernel
theorem dH_tells_32 : decode (xb yyH_tells) 32 = .ok (.getfield 10, 3) := by decide +kernel
theorem dH_tells_35 : decode (xb yyH_tells) 35 = .ok (.getfield 68, 3) := by decide +kernel
theorem dH_tells_38 : decode (xb yyH_tells) 38 = .ok (.invokevirtual 71, 3) := by decide +kernel
theorem dH_tells_41 : decode (xb yyH_tells) 41 = .ok (.if_icmp .ge 33, 3) := by decide +kernel
theorem dH_tells_44 : decode (xb yyH_tells) 44 = .ok (.aload_n 0, 1) := by decide +kernel
theorem dH_tells_45 : decode (xb yyH_tells) 45 = .ok (.getfield 58, 3) := by decide +kernel
theorem dH_tells_48 : decode (xb yyH_tells) 48 = .ok (.iload 5, 2) := by decide +kernel
theorem dH_tells_50 : decode (xb yyH_tells) 50 = .ok (.iconst 0, 1) := by decide +kernel
theorem dH_tells_51 : decode (xb yyH_tells) 51 = .ok (.aload_n 0, 1) := by decide +kernel
theorem dH_tells_52 : decode (xb yyH_tells) 52 = .ok (.getfield 10, 3) := by decide +kernel
theorem dH_tells_55 : decode (xb yyH_tells) 55 = .ok (.getfield 68, 3) := by decide +kernel
theorem dH_tells_58 : decode (xb yyH_tells) 58 = .ok (.iload 5, 2) := by decide +kernel
theorem dH_tells_60 : decode (xb yyH_tells) 60 = .ok (.iload 4, 2) := by decide +kernel
theorem dH_tells_62 : decode (xb yyH_tells) 62 = .ok (.invokevirtual 179, 3) := by decide +kernel
theorem dH_tells_65 : decode (xb yyH_tells) 65 = .ok (.invokevirtual 91, 3) := by decide +kernel
theorem dH_tells_68 : decode (xb yyH_tells) 68 = .ok (.iinc 5 1, 3) := by decide +kernel
theorem dH_tells_71 : decode (xb yyH_tells) 71 = .ok (.goto (-42), 3) := by decide +kernel
theorem dH_tells_74 : decode (xb yyH_tells) 74 = .ok (.aload_n 0, 1) := by decide +kernel
theorem dH_tells_75 : decode (xb yyH_tells) 75 = .ok (.iload_n 1, 1) := by decide +kernel
theorem dH_tells_76 : decode (xb yyH_tells) 76 = .ok (.invokevirtual 240, 3) := by decide +kernel
theorem dH_tells_79 : decode (xb yyH_tells) 79 = .ok (.istore 5, 2) := by decide +kernel
theorem dH_tells_81 : decode (xb yyH_tells) 81 = .ok (.iload 5, 2) := by decide +kernel
theorem dH_tells_83 : decode (xb yyH_tells) 83 = .ok (.iload_n 3, 1) := by decide +kernel
theorem dH_tells_84 : decode (xb yyH_tells) 84 = .ok (.if_icmp .ge 9, 3) := by decide +kernel
theorem dH_tells_87 : decode (xb yyH_tells) 87 = .ok (.iload 5, 2) := by decide +kernel
theorem dH_tells_89 : decode (xb yyH_tells) 89 = .ok (.istore_n 3, 1) := by decide +kernel
theorem dH_tells_90 : decode (xb yyH_tells) 90 = .ok (.iload 4, 2) := by decide +kernel
theorem dH_tells_92 : decode (xb yyH_tells) 92 = .ok (.istore_n 2, 1) := by decide +kernel
theorem dH_tells_93 : decode (xb yyH_tells) 93 = .ok (.iinc 4 1, 3) := by decide +kernel
theorem dH_tells_96 : decode (xb yyH_tells) 96 = .ok (.goto (-80), 3) := by decide +kernel
theorem dH_tells_99 : decode (xb yyH_tells) 99 = .ok (.iload_n 2, 1) := by decide +kernel
theorem dH_tells_100 : decode (xb yyH_tells) 100 = .ok (.ireturn, 1) := by decide +kernel
def fH_tells_b93 (k16 : Int32 → Int32 → Int32 → Int32 → xM → Option (Int32 × xM)) (v1 : Int32) (v2 : Int32) (v3 : Int32) (v4 : Int32) (m : xM) : Option (Int32 × xM) := k16 v1 v2 v3 (v4 + 1) m
def fH_tells_l29 (k16 : Int32 → Int32 → Int32 → Int32 → xM → Option (Int32 × xM)) : Nat → Int32 → Int32 → Int32 → Int32 → Int32 → xM → Option (Int32 × xM)
  | 0, _, _, _, _, _, _ => none
  | n + 1, v1, v2, v3, v4, v5, m => (fB_many 0 m).bind fun r38 => (if r38 ≤ v5 then (fH_mostAlike m v1).bind fun r76 => (if v3 ≤ r76 then fH_tells_b93 k16 v1 v2 v3 v4 m else fH_tells_b93 k16 v1 v4 r76 v4 m) else (fB_soundOf 0 m v5 v4).bind fun r62 => (fT_put 34 v5 (0 : Int32) r62 m).bind fun r65 => fH_tells_l29 k16 n v1 v2 v3 v4 (v5 + 1) r65)
def fH_tells_l16  : Nat → Int32 → Int32 → Int32 → Int32 → xM → Option (Int32 × xM)
  | 0, _, _, _, _, _ => none
  | n + 1, v1, v2, v3, v4, m => (if (4 : Int32) ≤ v4 then some (v2, m) else (if v1 = 0 then some (v2, m) else fH_tells_l29 (fH_tells_l16 n) xfu v1 v2 v3 v4 (0 : Int32) m))
def fH_tells  (m : xM) : Option (Int32 × xM) := (fW_heardBoards 0 m).bind fun r4 => fH_tells_l16 xfu r4 (-1 : Int32) (7 : Int32) (0 : Int32) m
set_option maxRecDepth 100000 in
set_option maxHeartbeats 4000000 in
theorem kH_tells_b93 (G : xG)   (z : xM)  (k16 : Int32 → Int32 → Int32 → Int32 → xM → Option (Int32 × xM)) (hk16 : ∀ (v1 : Int32) (v2 : Int32) (v3 : Int32) (v4 : Int32) (m : xM), xR G yyH_tells (emic z) 16 [(0, .ref (xa G 81)), (1, .int v1), (2, .int v2), (3, .int v3), (4, .int v4)] [] (m, z) (k16 v1 v2 v3 v4 m)) (v1 : Int32) (v2 : Int32) (v3 : Int32) (v4 : Int32) (m : xM) : xR G yyH_tells (emic z) 93 [(0, .ref (xa G 81)), (1, .int v1), (2, .int v2), (3, .int v3), (4, .int v4)] [] (m, z) (fH_tells_b93 k16 v1 v2 v3 v4 m) := by
  unfold fH_tells_b93
  refine xR_iinc 93 4 (v4 + 1) ([(4, .int (v4 + 1)), (0, .ref (xa G 81)), (1, .int v1), (2, .int v2), (3, .int v3)]) dH_tells_93 rfl rfl (by decide) rfl ?_
  refine xR_goto 96 16 dH_tells_96 (by decide) ?_
  exact xR_sub [1, 2, 3, 4, 0] rfl (hk16 v1 v2 v3 (v4 + 1) m)
set_option maxRecDepth 100000 in
set_option maxHeartbeats 4000000 in
theorem kH_tells_l29 (G : xG)   (z : xM)  (k16 : Int32 → Int32 → Int32 → Int32 → xM → Option (Int32 × xM)) (hk16 : ∀ (v1 : Int32) (v2 : Int32) (v3 : Int32) (v4 : Int32) (m : xM), xR G yyH_tells (emic z) 16 [(0, .ref (xa G 81)), (1, .int v1), (2, .int v2), (3, .int v3), (4, .int v4)] [] (m, z) (k16 v1 v2 v3 v4 m)) : ∀ (n : Nat) (v1 : Int32) (v2 : Int32) (v3 : Int32) (v4 : Int32) (v5 : Int32) (m : xM), xR G yyH_tells (emic z) 29 [(0, .ref (xa G 81)), (1, .int v1), (2, .int v2), (3, .int v3), (4, .int v4), (5, .int v5)] [] (m, z) (fH_tells_l29 k16 n v1 v2 v3 v4 v5 m) := by
  intro n
  induction n with
  | zero =>
    intro v1 v2 v3 v4 v5 m
    rw [fH_tells_l29]
    exact xR_none
  | succ n ih =>
    intro v1 v2 v3 v4 v5 m
    rw [fH_tells_l29]
    refine xR_il 29 5 dH_tells_29 rfl ?_
    refine xR_aln 31 0 dH_tells_31 rfl rfl ?_
    refine xR_getf 32 xcf6 0 81 (by decide) (by decide) rfl (v := .ref (xa G 77)) rfl fl_RX8_10 dH_tells_32 ?_
    refine xR_getf 35 xcf5 0 77 (by decide) (by decide) (xC_twn (t := 0) (by decide)) (v := .ref (xa G 72)) rfl fl_RX8_68 dH_tells_35 ?_
    refine xR_callVi 38 cv_B_many ml_RX8_71 ⟨Nat.le_of_ble_eq_true rfl, Nat.le_of_ble_eq_true rfl⟩ xcf0 rfl 72 (by decide) (xC_brd (b := 0) (by decide)) [] rfl rfl (Nat.le_of_ble_eq_true rfl) dH_tells_38 (kB_many G 0 (by decide) z m) (fun r38 => ?_)
    refine xR_icge 41 74 dH_tells_41 (by decide) ?_ ?_
    · refine xR_aln 74 0 dH_tells_74 rfl rfl ?_
      refine xR_iln 75 1 dH_tells_75 rfl rfl ?_
      refine xR_callVi 76 cv_H_mostAlike ml_RX8_240 ⟨Nat.le_of_ble_eq_true rfl, Nat.le_of_ble_eq_true rfl⟩ xcf6 rfl 81 (by decide) rfl [.int v1] rfl rfl (Nat.le_of_ble_eq_true rfl) dH_tells_76 (kH_mostAlike G z m v1) (fun r76 => ?_)
      refine xR_is 79 ([(5, .int r76), (0, .ref (xa G 81)), (1, .int v1), (2, .int v2), (3, .int v3), (4, .int v4)]) dH_tells_79 (by decide) rfl ?_
      refine xR_il 81 0 dH_tells_81 rfl ?_
      refine xR_iln 83 4 dH_tells_83 rfl rfl ?_
      refine xR_icge 84 93 dH_tells_84 (by decide) ?_ ?_
      · exact xR_sub [1, 2, 3, 4, 5] rfl (kH_tells_b93 G z k16 hk16 v1 v2 v3 v4 m)
      · refine xR_il 87 0 dH_tells_87 rfl ?_
        refine xR_isn 89 ([(3, .int r76), (5, .int r76), (0, .ref (xa G 81)), (1, .int v1), (2, .int v2), (4, .int v4)]) dH_tells_89 rfl (by decide) rfl ?_
        refine xR_il 90 5 dH_tells_90 rfl ?_
        refine xR_isn 92 ([(2, .int v4), (3, .int r76), (5, .int r76), (0, .ref (xa G 81)), (1, .int v1), (4, .int v4)]) dH_tells_92 rfl (by decide) rfl ?_
        exact xR_sub [3, 4, 0, 1, 5] rfl (kH_tells_b93 G z k16 hk16 v1 v4 r76 v4 m)
    · refine xR_aln 44 0 dH_tells_44 rfl rfl ?_
      refine xR_getf 45 xcf6 7 81 (by decide) (by decide) rfl (v := .ref (xa G 70)) rfl fl_RX8_58 dH_tells_45 ?_
      refine xR_il 48 5 dH_tells_48 rfl ?_
      refine xR_ic 50 (0 : Int32) dH_tells_50 (by decide) ?_
      refine xR_aln 51 0 dH_tells_51 rfl rfl ?_
      refine xR_getf 52 xcf6 0 81 (by decide) (by decide) rfl (v := .ref (xa G 77)) rfl fl_RX8_10 dH_tells_52 ?_
      refine xR_getf 55 xcf5 0 77 (by decide) (by decide) (xC_twn (t := 0) (by decide)) (v := .ref (xa G 72)) rfl fl_RX8_68 dH_tells_55 ?_
      refine xR_il 58 5 dH_tells_58 rfl ?_
      refine xR_il 60 4 dH_tells_60 rfl ?_
      refine xR_callVi 62 cv_B_soundOf ml_RX8_179 ⟨Nat.le_of_ble_eq_true rfl, Nat.le_of_ble_eq_true rfl⟩ xcf0 rfl 72 (by decide) (xC_brd (b := 0) (by decide)) [.int v5, .int v4] rfl rfl (Nat.le_of_ble_eq_true rfl) dH_tells_62 (kB_soundOf G 0 (by decide) z m v5 v4) (fun r62 => ?_)
      refine xR_callVvc 65 cv_T_put ml_RX8_91 ⟨Nat.le_of_ble_eq_true rfl, Nat.le_of_ble_eq_true rfl⟩ xcf3 rfl 70 (by decide) (xC_tab (t := 34) (by decide)) [.int v5, .int (0 : Int32), .int r62] rfl rfl (Nat.le_of_ble_eq_true rfl) dH_tells_65 (kT_put G 34 (by decide) z m v5 (0 : Int32) r62) (fun r65 => ?_)
      refine xR_iinc 68 5 (v5 + 1) ([(5, .int (v5 + 1)), (0, .ref (xa G 81)), (1, .int v1), (2, .int v2), (3, .int v3), (4, .int v4)]) dH_tells_68 rfl rfl (by decide) rfl ?_
      refine xR_goto 71 29 dH_tells_71 (by decide) ?_
      exact xR_sub [1, 2, 3, 4, 5, 0] rfl (ih v1 v2 v3 v4 (v5 + 1) r65)
set_option maxRecDepth 100000 in
set_option maxHeartbeats 4000000 in
theorem kH_tells_l16 (G : xG)   (z : xM)    : ∀ (n : Nat) (v1 : Int32) (v2 : Int32) (v3 : Int32) (v4 : Int32) (m : xM), xR G yyH_tells (emic z) 16 [(0, .ref (xa G 81)), (1, .int v1), (2, .int v2), (3, .int v3), (4, .int v4)] [] (m, z) (fH_tells_l16  n v1 v2 v3 v4 m) := by
  intro n
  induction n with
  | zero =>
    intro v1 v2 v3 v4 m
    rw [fH_tells_l16]
    exact xR_none
  | succ n ih =>
    intro v1 v2 v3 v4 m
    rw [fH_tells_l16]
    refine xR_il 16 4 dH_tells_16 rfl ?_
    refine xR_ic 18 (4 : Int32) dH_tells_18 (by decide) ?_
    refine xR_icge 19 99 dH_tells_19 (by decide) ?_ ?_
    · refine xR_iln 99 2 dH_tells_99 rfl rfl ?_
      exact xR_iret 100 rfl rfl dH_tells_100
    · refine xR_iln 22 1 dH_tells_22 rfl rfl ?_
      refine xR_ifeq 23 99 dH_tells_23 (by decide) ?_ ?_
      · refine xR_iln 99 2 dH_tells_99 rfl rfl ?_
        exact xR_iret 100 rfl rfl dH_tells_100
      · refine xR_ic 26 (0 : Int32) dH_tells_26 (by decide) ?_
        refine xR_is 27 ([(5, .int (0 : Int32)), (0, .ref (xa G 81)), (1, .int v1), (2, .int v2), (3, .int v3), (4, .int v4)]) dH_tells_27 (by decide) rfl ?_
        exact xR_sub [1, 2, 3, 4, 5, 0] rfl (kH_tells_l29 G z (fH_tells_l16 n) ih xfu v1 v2 v3 v4 (0 : Int32) m)
set_option maxRecDepth 100000 in
set_option maxHeartbeats 4000000 in
theorem kH_tells (G : xG)   (z : xM) (m : xM) : ∀ a, fH_tells  m = some a → xCt G yyH_tells [.ref (xa G 81)] (m, z) (some (.int a.1)) (a.2, z) := by
  refine xR_ct (em := (emic z)) rfl (Nat.le_of_ble_eq_true rfl) ?_
  show xR G yyH_tells _ 0 [(0, .ref (xa G 81))] [] _ _
  unfold fH_tells
  refine xR_aln 0 0 dH_tells_0 rfl rfl ?_
  refine xR_getf 1 xcf6 0 81 (by decide) (by decide) rfl (v := .ref (xa G 77)) rfl fl_RX8_10 dH_tells_1 ?_
  refine xR_callVi 4 cv_W_heardBoards ml_RX8_237 ⟨Nat.le_of_ble_eq_true rfl, Nat.le_of_ble_eq_true rfl⟩ xcf5 rfl 77 (by decide) (xC_twn (t := 0) (by decide)) [] rfl rfl (Nat.le_of_ble_eq_true rfl) dH_tells_4 (kW_heardBoards G 0 (by decide) z m) (fun r4 => ?_)
  refine xR_isn 7 ([(1, .int r4), (0, .ref (xa G 81))]) dH_tells_7 rfl (by decide) rfl ?_
  refine xR_ic 8 (-1 : Int32) dH_tells_8 (by decide) ?_
  refine xR_isn 9 ([(2, .int (-1 : Int32)), (1, .int r4), (0, .ref (xa G 81))]) dH_tells_9 rfl (by decide) rfl ?_
  refine xR_bp 10 (7 : Int32) dH_tells_10 (by decide) ?_
  refine xR_isn 12 ([(3, .int (7 : Int32)), (2, .int (-1 : Int32)), (1, .int r4), (0, .ref (xa G 81))]) dH_tells_12 rfl (by decide) rfl ?_
  refine xR_ic 13 (0 : Int32) dH_tells_13 (by decide) ?_
  refine xR_is 14 ([(4, .int (0 : Int32)), (3, .int (7 : Int32)), (2, .int (-1 : Int32)), (1, .int r4), (0, .ref (xa G 81))]) dH_tells_14 (by decide) rfl ?_
  exact xR_sub [4, 3, 2, 1, 0] rfl (kH_tells_l16 G z xfu r4 (-1 : Int32) (7 : Int32) (0 : Int32) m)
