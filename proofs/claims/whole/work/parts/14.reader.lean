theorem dR_take_0 : decode (xb yyR_take) 0 = .ok (.aload_n 0, 1) := by decide +kernel
theorem dR_take_1 : decode (xb yyR_take) 1 = .ok (.getfield 12, 3) := by decide +kernel
theorem dR_take_4 : decode (xb yyR_take) 4 = .ok (.invokevirtual 125, 3) := by decide +kernel
theorem dR_take_7 : decode (xb yyR_take) 7 = .ok (.istore_n 1, 1) := by decide +kernel
theorem dR_take_8 : decode (xb yyR_take) 8 = .ok (.aload_n 0, 1) := by decide +kernel
theorem dR_take_9 : decode (xb yyR_take) 9 = .ok (.aload_n 0, 1) := by decide +kernel
theorem dR_take_10 : decode (xb yyR_take) 10 = .ok (.getfield 12, 3) := by decide +kernel
theorem dR_take_13 : decode (xb yyR_take) 13 = .ok (.getfield 128, 3) := by decide +kernel
theorem dR_take_16 : decode (xb yyR_take) 16 = .ok (.iload_n 1, 1) := by decide +kernel
theorem dR_take_17 : decode (xb yyR_take) 17 = .ok (.iconst 0, 1) := by decide +kernel
theorem dR_take_18 : decode (xb yyR_take) 18 = .ok (.invokevirtual 131, 3) := by decide +kernel
theorem dR_take_21 : decode (xb yyR_take) 21 = .ok (.putfield 35, 3) := by decide +kernel
theorem dR_take_24 : decode (xb yyR_take) 24 = .ok (.aload_n 0, 1) := by decide +kernel
theorem dR_take_25 : decode (xb yyR_take) 25 = .ok (.aload_n 0, 1) := by decide +kernel
theorem dR_take_26 : decode (xb yyR_take) 26 = .ok (.getfield 12, 3) := by decide +kernel
theorem dR_take_29 : decode (xb yyR_take) 29 = .ok (.getfield 128, 3) := by decide +kernel
theorem dR_take_32 : decode (xb yyR_take) 32 = .ok (.iload_n 1, 1) := by decide +kernel
theorem dR_take_33 : decode (xb yyR_take) 33 = .ok (.iconst 1, 1) := by decide +kernel
theorem dR_take_34 : decode (xb yyR_take) 34 = .ok (.invokevirtual 131, 3) := by decide +kernel
theorem dR_take_37 : decode (xb yyR_take) 37 = .ok (.putfield 43, 3) := by decide +kernel
theorem dR_take_40 : decode (xb yyR_take) 40 = .ok (.aload_n 0, 1) := by decide +kernel
theorem dR_take_41 : decode (xb yyR_take) 41 = .ok (.aload_n 0, 1) := by decide +kernel
theorem dR_take_42 : decode (xb yyR_take) 42 = .ok (.getfield 12, 3) := by decide +kernel
theorem dR_take_45 : decode (xb yyR_take) 45 = .ok (.getfield 128, 3) := by decide +kernel
theorem dR_take_48 : decode (xb yyR_take) 48 = .ok (.iload_n 1, 1) := by decide +kernel
theorem dR_take_49 : decode (xb yyR_take) 49 = .ok (.iconst 2, 1) := by decide +kernel
theorem dR_take_50 : decode (xb yyR_take) 50 = .ok (.invokevirtual 131, 3) := by decide +kernel
theorem dR_take_53 : decode (xb yyR_take) 53 = .ok (.putfield 46, 3) := by decide +kernel
theorem dR_take_56 : decode (xb yyR_take) 56 = .ok (.return_, 1) := by decide +kernel
def fR_take  (m : xM) : Option (xM) := (fO_next m).bind fun r4 => (fT_get 30 r4.2 r4.1 (0 : Int32)).bind fun r18 => (fT_get 30 (xset r4.2 40 0 r18) r4.1 (1 : Int32)).bind fun r34 => (fT_get 30 (xset (xset r4.2 40 0 r18) 40 1 r34) r4.1 (2 : Int32)).bind fun r50 => some (xset (xset (xset r4.2 40 0 r18) 40 1 r34) 40 2 r50)
set_option maxRecDepth 100000 in
set_option maxHeartbeats 4000000 in
theorem kR_take (G : xG)   (z : xM) (m : xM) : ∀ a, fR_take  m = some a → xCt G yyR_take [.ref (xa G 83)] (m, z) (none) (a, z) := by
  refine xR_ct (em := (emvc z)) rfl (Nat.le_of_ble_eq_true rfl) ?_
  show xR G yyR_take _ 0 [(0, .ref (xa G 83))] [] _ _
  unfold fR_take
  refine xR_aln 0 0 dR_take_0 rfl rfl ?_
  refine xR_getf 1 xcf2 0 83 (by decide) (by decide) rfl (v := .ref (xa G 84)) rfl fl_RX2_12 dR_take_1 ?_
  refine xR_callVic 4 cv_O_next ml_RX2_125 ⟨Nat.le_of_ble_eq_true rfl, Nat.le_of_ble_eq_true rfl⟩ xcf4 rfl 84 (by decide) rfl [] rfl rfl (Nat.le_of_ble_eq_true rfl) dR_take_4 (kO_next G z m) (fun r4 => ?_)
  refine xR_isn 7 ([(1, .int r4.1), (0, .ref (xa G 83))]) dR_take_7 rfl (by decide) rfl ?_
  refine xR_aln 8 1 dR_take_8 rfl rfl ?_
  refine xR_aln 9 1 dR_take_9 rfl rfl ?_
  refine xR_getf 10 xcf2 0 83 (by decide) (by decide) rfl (v := .ref (xa G 84)) rfl fl_RX2_12 dR_take_10 ?_
  refine xR_getf 13 xcf4 0 84 (by decide) (by decide) rfl (v := .ref (xa G 66)) rfl fl_RX2_128 dR_take_13 ?_
  refine xR_iln 16 0 dR_take_16 rfl rfl ?_
  refine xR_ic 17 (0 : Int32) dR_take_17 (by decide) ?_
  refine xR_callVi 18 cv_T_get ml_RX2_131 ⟨Nat.le_of_ble_eq_true rfl, Nat.le_of_ble_eq_true rfl⟩ xcf3 rfl 66 (by decide) (xC_tab (t := 30) (by decide)) [.int r4.1, .int (0 : Int32)] rfl rfl (Nat.le_of_ble_eq_true rfl) dR_take_18 (kT_get G 30 (by decide) z r4.2 r4.1 (0 : Int32)) (fun r18 => ?_)
  refine xR_putf 21 xcf2 2 83 (by decide) (by decide) rfl rfl rfl rfl (Nat.le_of_ble_eq_true rfl) ((xset r4.2 40 0 r18), z) (xW_blk (a := 40) (i := 0) (by decide) (by decide) rfl) fl_RX2_35 dR_take_21 ?_
  refine xR_aln 24 1 dR_take_24 rfl rfl ?_
  refine xR_aln 25 1 dR_take_25 rfl rfl ?_
  refine xR_getf 26 xcf2 0 83 (by decide) (by decide) rfl (v := .ref (xa G 84)) rfl fl_RX2_12 dR_take_26 ?_
  refine xR_getf 29 xcf4 0 84 (by decide) (by decide) rfl (v := .ref (xa G 66)) rfl fl_RX2_128 dR_take_29 ?_
  refine xR_iln 32 0 dR_take_32 rfl rfl ?_
  refine xR_ic 33 (1 : Int32) dR_take_33 (by decide) ?_
  refine xR_callVi 34 cv_T_get ml_RX2_131 ⟨Nat.le_of_ble_eq_true rfl, Nat.le_of_ble_eq_true rfl⟩ xcf3 rfl 66 (by decide) (xC_tab (t := 30) (by decide)) [.int r4.1, .int (1 : Int32)] rfl rfl (Nat.le_of_ble_eq_true rfl) dR_take_34 (kT_get G 30 (by decide) z (xset r4.2 40 0 r18) r4.1 (1 : Int32)) (fun r34 => ?_)
  refine xR_putf 37 xcf2 3 83 (by decide) (by decide) rfl rfl rfl rfl (Nat.le_of_ble_eq_true rfl) ((xset (xset r4.2 40 0 r18) 40 1 r34), z) (xW_blk (a := 40) (i := 1) (by decide) (by decide) rfl) fl_RX2_43 dR_take_37 ?_
  refine xR_aln 40 1 dR_take_40 rfl rfl ?_
  refine xR_aln 41 1 dR_take_41 rfl rfl ?_
  refine xR_getf 42 xcf2 0 83 (by decide) (by decide) rfl (v := .ref (xa G 84)) rfl fl_RX2_12 dR_take_42 ?_
  refine xR_getf 45 xcf4 0 84 (by decide) (by decide) rfl (v := .ref (xa G 66)) rfl fl_RX2_128 dR_take_45 ?_
  refine xR_iln 48 0 dR_take_48 rfl rfl ?_
  refine xR_ic 49 (2 : Int32) dR_take_49 (by decide) ?_
  refine xR_callVi 50 cv_T_get ml_RX2_131 ⟨Nat.le_of_ble_eq_true rfl, Nat.le_of_ble_eq_true rfl⟩ xcf3 rfl 66 (by decide) (xC_tab (t := 30) (by decide)) [.int r4.1, .int (2 : Int32)] rfl rfl (Nat.le_of_ble_eq_true rfl) dR_take_50 (kT_get G 30 (by decide) z (xset (xset r4.2 40 0 r18) 40 1 r34) r4.1 (2 : Int32)) (fun r50 => ?_)
  refine xR_putf 53 xcf2 4 83 (by decide) (by decide) rfl rfl rfl rfl (Nat.le_of_ble_eq_true rfl) ((xset (xset (xset r4.2 40 0 r18) 40 1 r34) 40 2 r50), z) (xW_blk (a := 40) (i := 2) (by decide) (by decide) rfl) fl_RX2_46 dR_take_53 ?_
  exact xR_vret 56 rfl rfl dR_take_56
theorem dR_takeStop_0 : decode (xb yyR_takeStop) 0 = .ok (.aload_n 0, 1) := by decide +kernel
theorem dR_takeStop_1 : decode (xb yyR_takeStop) 1 = .ok (.invokevirtual 32, 3) := by decide +kernel
theorem dR_takeStop_4 : decode (xb yyR_takeStop) 4 = .ok (.aload_n 0, 1) := by decide +kernel
theorem dR_takeStop_5 : decode (xb yyR_takeStop) 5 = .ok (.getfield 35, 3) := by decide +kernel
theorem dR_takeStop_8 : decode (xb yyR_takeStop) 8 = .ok (.iconst 2, 1) := by decide +kernel
theorem dR_takeStop_9 : decode (xb yyR_takeStop) 9 = .ok (.if_icmp .ne 7, 3) := by decide +kernel
theorem dR_takeStop_12 : decode (xb yyR_takeStop) 12 = .ok (.iconst 1, 1) := by decide +kernel
theorem dR_takeStop_13 : decode (xb yyR_takeStop) 13 = .ok (.goto 4, 3) := by decide +kernel
theorem dR_takeStop_16 : decode (xb yyR_takeStop) 16 = .ok (.iconst 0, 1) := by decide +kernel
theorem dR_takeStop_17 : decode (xb yyR_takeStop) 17 = .ok (.ireturn, 1) := by decide +kernel
def fR_takeStop  (m : xM) : Option (Int32 × xM) := (fR_take m).bind fun r1 => (if (r1.1 40 0) = (2 : Int32) then some ((xnb (1 : Int32)), r1) else some ((xnb (0 : Int32)), r1))
set_option maxRecDepth 100000 in
set_option maxHeartbeats 4000000 in
theorem kR_takeStop (G : xG)   (z : xM) (m : xM) : ∀ a, fR_takeStop  m = some a → xCt G yyR_takeStop [.ref (xa G 83)] (m, z) (some (.int a.1)) (a.2, z) := by
  refine xR_ct (em := (emic z)) rfl (Nat.le_of_ble_eq_true rfl) ?_
  show xR G yyR_takeStop _ 0 [(0, .ref (xa G 83))] [] _ _
  unfold fR_takeStop
  refine xR_aln 0 0 dR_takeStop_0 rfl rfl ?_
  refine xR_callVvc 1 cv_R_take ml_RX2_32 ⟨Nat.le_of_ble_eq_true rfl, Nat.le_of_ble_eq_true rfl⟩ xcf2 rfl 83 (by decide) rfl [] rfl rfl (Nat.le_of_ble_eq_true rfl) dR_takeStop_1 (kR_take G z m) (fun r1 => ?_)
  refine xR_aln 4 0 dR_takeStop_4 rfl rfl ?_
  refine xR_getf 5 xcf2 2 83 (by decide) (by decide) rfl (v := .int (r1.1 40 0)) rfl fl_RX2_35 dR_takeStop_5 ?_
  refine xR_ic 8 (2 : Int32) dR_takeStop_8 (by decide) ?_
  refine xR_icne 9 16 dR_takeStop_9 (by decide) ?_ ?_
  · refine xR_ic 16 (0 : Int32) dR_takeStop_16 (by decide) ?_
    exact xR_zret 17 rfl rfl dR_takeStop_17
  · refine xR_ic 12 (1 : Int32) dR_takeStop_12 (by decide) ?_
    refine xR_goto 13 17 dR_takeStop_13 (by decide) ?_
    exact xR_zret 17 rfl rfl dR_takeStop_17
theorem dR_readWets_0 : decode (xb yyR_readWets) 0 = .ok (.iconst 0, 1) := by decide +kernel
theorem dR_readWets_1 : decode (xb yyR_readWets) 1 = .ok (.istore_n 1, 1) := by decide +kernel
theorem dR_readWets_2 : decode (xb yyR_readWets) 2 = .ok (.iload_n 1, 1) := by decide +kernel
theorem dR_readWets_3 : decode (xb yyR_readWets) 3 = .ok (.iconst 5, 1) := by decide +kernel
theorem dR_readWets_4 : decode (xb yyR_readWets) 4 = .ok (.if_icmp .ge 61, 3) := by decide +kernel
theorem dR_readWets_7 : decode (xb yyR_readWets) 7 = .ok (.aload_n 0, 1) := by decide +kernel
theorem dR_readWets_8 : decode (xb yyR_readWets) 8 = .ok (.invokevirtual 32, 3) := by decide +kernel
theorem dR_readWets_11 : decode (xb yyR_readWets) 11 = .ok (.aload_n 0, 1) := by decide +kernel
theorem dR_readWets_12 : decode (xb yyR_readWets) 12 = .ok (.getfield 35, 3) := by decide +kernel
theorem dR_readWets_15 : decode (xb yyR_readWets) 15 = .ok (.iconst 2, 1) := by decide +kernel
theorem dR_readWets_16 : decode (xb yyR_readWets) 16 = .ok (.if_icmp .ne 9, 3) := by decide +kernel
theorem dR_readWets_19 : decode (xb yyR_readWets) 19 = .ok (.iload_n 1, 1) := by decide +kernel
theorem dR_readWets_20 : decode (xb yyR_readWets) 20 = .ok (.ifCond .le 5, 3) := by decide +kernel
theorem dR_readWets_23 : decode (xb yyR_readWets) 23 = .ok (.iconst 1, 1) := by decide +kernel
theorem dR_readWets_24 : decode (xb yyR_readWets) 24 = .ok (.ireturn, 1) := by decide +kernel
theorem dR_readWets_25 : decode (xb yyR_readWets) 25 = .ok (.aload_n 0, 1) := by decide +kernel
theorem dR_readWets_26 : decode (xb yyR_readWets) 26 = .ok (.getfield 35, 3) := by decide +kernel
theorem dR_readWets_29 : decode (xb yyR_readWets) 29 = .ok (.iconst 1, 1) := by decide +kernel
theorem dR_readWets_30 : decode (xb yyR_readWets) 30 = .ok (.if_icmp .ne 11, 3) := by decide +kernel
theorem dR_readWets_33 : decode (xb yyR_readWets) 33 = .ok (.aload_n 0, 1) := by decide +kernel
theorem dR_readWets_34 : decode (xb yyR_readWets) 34 = .ok (.getfield 46, 3) := by decide +kernel
theorem dR_readWets_37 : decode (xb yyR_readWets) 37 = .ok (.iconst 4, 1) := by decide +kernel
theorem dR_readWets_38 : decode (xb yyR_readWets) 38 = .ok (.if_icmp .le 5, 3) := by decide +kernel
theorem dR_readWets_41 : decode (xb yyR_readWets) 41 = .ok (.iconst 0, 1) := by decide +kernel
theorem dR_readWets_42 : decode (xb yyR_readWets) 42 = .ok (.ireturn, 1) := by decide +kernel
theorem dR_readWets_43 : decode (xb yyR_readWets) 43 = .ok (.aload_n 0, 1) := by decide +kernel
theorem dR_readWets_44 : decode (xb yyR_readWets) 44 = .ok (.getfield 21, 3) := by decide +kernel
theorem dR_readWets_47 : decode (xb yyR_readWets) 47 = .ok (.getfield 71, 3) := by decide +kernel
theorem dR_readWets_50 : decode (xb yyR_readWets) 50 = .ok (.iload_n 1, 1) := by decide +kernel
theorem dR_readWets_51 : decode (xb yyR_readWets) 51 = .ok (.iconst 0, 1) := by decide +kernel
theorem dR_readWets_52 : decode (xb yyR_readWets) 52 = .ok (.aload_n 0, 1) := by decide +kernel
theorem dR_readWets_53 : decode (xb yyR_readWets) 53 = .ok (.getfield 46, 3) := by decide +kernel
theorem dR_readWets_56 : decode (xb yyR_readWets) 56 = .ok (.invokevirtual 75, 3) := by decide +kernel
theorem dR_readWets_59 : decode (xb yyR_readWets) 59 = .ok (.iinc 1 1, 3) := by decide +kernel
theorem dR_readWets_62 : decode (xb yyR_readWets) 62 = .ok (.goto (-60), 3) := by decide +kernel
theorem dR_readWets_65 : decode (xb yyR_readWets) 65 = .ok (.aload_n 0, 1) := by decide +kernel
theorem dR_readWets_66 : decode (xb yyR_readWets) 66 = .ok (.invokevirtual 49, 3) := by decide +kernel
theorem dR_readWets_69 : decode (xb yyR_readWets) 69 = .ok (.ireturn, 1) := by decide +kernel
def fR_readWets_b25 (k2 : Int32 → xM → Option (Int32 × xM)) (v1 : Int32) (m : xM) : Option (Int32 × xM) := (if (m.1 40 0) = (1 : Int32) then (if (m.1 40 2) ≤ (4 : Int32) then (fT_put 23 v1 (0 : Int32) (m.1 40 2) m).bind fun r56 => k2 (v1 + 1) r56 else some ((xnb (0 : Int32)), m)) else some ((xnb (0 : Int32)), m))
def fR_readWets_l2  : Nat → Int32 → xM → Option (Int32 × xM)
  | 0, _, _ => none
  | n + 1, v1, m => (if (5 : Int32) ≤ v1 then (fR_takeStop m).bind fun r66 => some ((xnb r66.1), r66.2) else (fR_take m).bind fun r8 => (if (r8.1 40 0) = (2 : Int32) then (if v1 ≤ 0 then fR_readWets_b25 (fR_readWets_l2 n) v1 r8 else some ((xnb (1 : Int32)), r8)) else fR_readWets_b25 (fR_readWets_l2 n) v1 r8))
def fR_readWets  (m : xM) : Option (Int32 × xM) := fR_readWets_l2 xfu (0 : Int32) m
set_option maxRecDepth 100000 in
set_option maxHeartbeats 4000000 in
theorem kR_readWets_b25 (G : xG)   (z : xM)  (k2 : Int32 → xM → Option (Int32 × xM)) (hk2 : ∀ (v1 : Int32) (m : xM), xR G yyR_readWets (emic z) 2 [(0, .ref (xa G 83)), (1, .int v1)] [] (m, z) (k2 v1 m)) (v1 : Int32) (m : xM) : xR G yyR_readWets (emic z) 25 [(0, .ref (xa G 83)), (1, .int v1)] [] (m, z) (fR_readWets_b25 k2 v1 m) := by
  unfold fR_readWets_b25
  refine xR_aln 25 0 dR_readWets_25 rfl rfl ?_
  refine xR_getf 26 xcf2 2 83 (by decide) (by decide) rfl (v := .int (m.1 40 0)) rfl fl_RX2_35 dR_readWets_26 ?_
  refine xR_ic 29 (1 : Int32) dR_readWets_29 (by decide) ?_
  refine xR_icne 30 41 dR_readWets_30 (by decide) ?_ ?_
  · refine xR_ic 41 (0 : Int32) dR_readWets_41 (by decide) ?_
    exact xR_zret 42 rfl rfl dR_readWets_42
  · refine xR_aln 33 0 dR_readWets_33 rfl rfl ?_
    refine xR_getf 34 xcf2 4 83 (by decide) (by decide) rfl (v := .int (m.1 40 2)) rfl fl_RX2_46 dR_readWets_34 ?_
    refine xR_ic 37 (4 : Int32) dR_readWets_37 (by decide) ?_
    refine xR_icle 38 43 dR_readWets_38 (by decide) ?_ ?_
    · refine xR_aln 43 0 dR_readWets_43 rfl rfl ?_
      refine xR_getf 44 xcf2 1 83 (by decide) (by decide) rfl (v := .ref (xa G 80)) rfl fl_RX2_21 dR_readWets_44 ?_
      refine xR_getf 47 xcf5 2 80 (by decide) (by decide) (xC_twn (t := 3) (by decide)) (v := .ref (xa G 59)) rfl fl_RX2_71 dR_readWets_47 ?_
      refine xR_iln 50 1 dR_readWets_50 rfl rfl ?_
      refine xR_ic 51 (0 : Int32) dR_readWets_51 (by decide) ?_
      refine xR_aln 52 0 dR_readWets_52 rfl rfl ?_
      refine xR_getf 53 xcf2 4 83 (by decide) (by decide) rfl (v := .int (m.1 40 2)) rfl fl_RX2_46 dR_readWets_53 ?_
      refine xR_callVvc 56 cv_T_put ml_RX2_75 ⟨Nat.le_of_ble_eq_true rfl, Nat.le_of_ble_eq_true rfl⟩ xcf3 rfl 59 (by decide) (xC_tab (t := 23) (by decide)) [.int v1, .int (0 : Int32), .int (m.1 40 2)] rfl rfl (Nat.le_of_ble_eq_true rfl) dR_readWets_56 (kT_put G 23 (by decide) z m v1 (0 : Int32) (m.1 40 2)) (fun r56 => ?_)
      refine xR_iinc 59 1 (v1 + 1) ([(1, .int (v1 + 1)), (0, .ref (xa G 83))]) dR_readWets_59 rfl rfl (by decide) rfl ?_
      refine xR_goto 62 2 dR_readWets_62 (by decide) ?_
      exact xR_sub [1, 0] rfl (hk2 (v1 + 1) r56)
    · refine xR_ic 41 (0 : Int32) dR_readWets_41 (by decide) ?_
      exact xR_zret 42 rfl rfl dR_readWets_42
set_option maxRecDepth 100000 in
set_option maxHeartbeats 4000000 in
theorem kR_readWets_l2 (G : xG)   (z : xM)    : ∀ (n : Nat) (v1 : Int32) (m : xM), xR G yyR_readWets (emic z) 2 [(0, .ref (xa G 83)), (1, .int v1)] [] (m, z) (fR_readWets_l2  n v1 m) := by
  intro n
  induction n with
  | zero =>
    intro v1 m
    rw [fR_readWets_l2]
    exact xR_none
  | succ n ih =>
    intro v1 m
    rw [fR_readWets_l2]
    refine xR_iln 2 1 dR_readWets_2 rfl rfl ?_
    refine xR_ic 3 (5 : Int32) dR_readWets_3 (by decide) ?_
    refine xR_icge 4 65 dR_readWets_4 (by decide) ?_ ?_
    · refine xR_aln 65 0 dR_readWets_65 rfl rfl ?_
      refine xR_callVic 66 cv_R_takeStop ml_RX2_49 ⟨Nat.le_of_ble_eq_true rfl, Nat.le_of_ble_eq_true rfl⟩ xcf2 rfl 83 (by decide) rfl [] rfl rfl (Nat.le_of_ble_eq_true rfl) dR_readWets_66 (kR_takeStop G z m) (fun r66 => ?_)
      exact xR_zret 69 rfl rfl dR_readWets_69
    · refine xR_aln 7 0 dR_readWets_7 rfl rfl ?_
      refine xR_callVvc 8 cv_R_take ml_RX2_32 ⟨Nat.le_of_ble_eq_true rfl, Nat.le_of_ble_eq_true rfl⟩ xcf2 rfl 83 (by decide) rfl [] rfl rfl (Nat.le_of_ble_eq_true rfl) dR_readWets_8 (kR_take G z m) (fun r8 => ?_)
      refine xR_aln 11 0 dR_readWets_11 rfl rfl ?_
      refine xR_getf 12 xcf2 2 83 (by decide) (by decide) rfl (v := .int (r8.1 40 0)) rfl fl_RX2_35 dR_readWets_12 ?_
      refine xR_ic 15 (2 : Int32) dR_readWets_15 (by decide) ?_
      refine xR_icne 16 25 dR_readWets_16 (by decide) ?_ ?_
      · exact kR_readWets_b25 G z (fR_readWets_l2 n) ih v1 r8
      · refine xR_iln 19 1 dR_readWets_19 rfl rfl ?_
        refine xR_ifle 20 25 dR_readWets_20 (by decide) ?_ ?_
        · exact kR_readWets_b25 G z (fR_readWets_l2 n) ih v1 r8
        · refine xR_ic 23 (1 : Int32) dR_readWets_23 (by decide) ?_
          exact xR_zret 24 rfl rfl dR_readWets_24
set_option maxRecDepth 100000 in
set_option maxHeartbeats 4000000 in
theorem kR_readWets (G : xG)   (z : xM) (m : xM) : ∀ a, fR_readWets  m = some a → xCt G yyR_readWets [.ref (xa G 83)] (m, z) (some (.int a.1)) (a.2, z) := by
  refine xR_ct (em := (emic z)) rfl (Nat.le_of_ble_eq_true rfl) ?_
  show xR G yyR_readWets _ 0 [(0, .ref (xa G 83))] [] _ _
  unfold fR_readWets
  refine xR_ic 0 (0 : Int32) dR_readWets_0 (by decide) ?_
  refine xR_isn 1 ([(1, .int (0 : Int32)), (0, .ref (xa G 83))]) dR_readWets_1 rfl (by decide) rfl ?_
  exact xR_sub [1, 0] rfl (kR_readWets_l2 G z xfu (0 : Int32) m)
theorem dR_takeNumber_0 : decode (xb yyR_takeNumber) 0 = .ok (.aload_n 0, 1) := by decide +kernel
theorem dR_takeNumber_1 : decode (xb yyR_takeNumber) 1 = .ok (.invokevirtual 32, 3) := by decide +kernel
theorem dR_takeNumber_4 : decode (xb yyR_takeNumber) 4 = .ok (.aload_n 0, 1) := by decide +kernel
theorem dR_takeNumber_5 : decode (xb yyR_takeNumber) 5 = .ok (.getfield 35, 3) := by decide +kernel
theorem dR_takeNumber_8 : decode (xb yyR_takeNumber) 8 = .ok (.iconst 1, 1) := by decide +kernel
theorem dR_takeNumber_9 : decode (xb yyR_takeNumber) 9 = .ok (.if_icmp .ne 22, 3) := by decide +kernel
theorem dR_takeNumber_12 : decode (xb yyR_takeNumber) 12 = .ok (.aload_n 0, 1) := by decide +kernel
theorem dR_takeNumber_13 : decode (xb yyR_takeNumber) 13 = .ok (.getfield 46, 3) := by decide +kernel
theorem dR_takeNumber_16 : decode (xb yyR_takeNumber) 16 = .ok (.iload_n 1, 1) := by decide +kernel
theorem dR_takeNumber_17 : decode (xb yyR_takeNumber) 17 = .ok (.iload_n 2, 1) := by decide +kernel
theorem dR_takeNumber_18 : decode (xb yyR_takeNumber) 18 = .ok (.invokestatic 121, 3) := by decide +kernel
theorem dR_takeNumber_21 : decode (xb yyR_takeNumber) 21 = .ok (.ifCond .eq 10, 3) := by decide +kernel
theorem dR_takeNumber_24 : decode (xb yyR_takeNumber) 24 = .ok (.aload_n 0, 1) := by decide +kernel
theorem dR_takeNumber_25 : decode (xb yyR_takeNumber) 25 = .ok (.getfield 46, 3) := by decide +kernel
theorem dR_takeNumber_28 : decode (xb yyR_takeNumber) 28 = .ok (.goto 4, 3) := by decide +kernel
theorem dR_takeNumber_31 : decode (xb yyR_takeNumber) 31 = .ok (.iconst (-1), 1) := by decide +kernel
theorem dR_takeNumber_32 : decode (xb yyR_takeNumber) 32 = .ok (.ireturn, 1) := by decide +kernel
def fR_takeNumber  (v1 : Int32) (v2 : Int32) (m : xM) : Option (Int32 × xM) := (fR_take m).bind fun r1 => (if (r1.1 40 0) = (1 : Int32) then (fH_within (r1.1 40 2) v1 v2).bind fun r18 => (if r18 = 0 then some ((-1 : Int32), r1) else some ((r1.1 40 2), r1)) else some ((-1 : Int32), r1))
set_option maxRecDepth 100000 in
set_option maxHeartbeats 4000000 in
theorem kR_takeNumber (G : xG)   (z : xM) (m : xM) (v1 : Int32) (v2 : Int32) : ∀ a, fR_takeNumber  v1 v2 m = some a → xCt G yyR_takeNumber [.ref (xa G 83), .int v1, .int v2] (m, z) (some (.int a.1)) (a.2, z) := by
  refine xR_ct (em := (emic z)) rfl (Nat.le_of_ble_eq_true rfl) ?_
  show xR G yyR_takeNumber _ 0 [(0, .ref (xa G 83)), (1, .int v1), (2, .int v2)] [] _ _
  unfold fR_takeNumber
  refine xR_aln 0 0 dR_takeNumber_0 rfl rfl ?_
  refine xR_callVvc 1 cv_R_take ml_RX2_32 ⟨Nat.le_of_ble_eq_true rfl, Nat.le_of_ble_eq_true rfl⟩ xcf2 rfl 83 (by decide) rfl [] rfl rfl (Nat.le_of_ble_eq_true rfl) dR_takeNumber_1 (kR_take G z m) (fun r1 => ?_)
  refine xR_aln 4 0 dR_takeNumber_4 rfl rfl ?_
  refine xR_getf 5 xcf2 2 83 (by decide) (by decide) rfl (v := .int (r1.1 40 0)) rfl fl_RX2_35 dR_takeNumber_5 ?_
  refine xR_ic 8 (1 : Int32) dR_takeNumber_8 (by decide) ?_
  refine xR_icne 9 31 dR_takeNumber_9 (by decide) ?_ ?_
  · refine xR_ic 31 (-1 : Int32) dR_takeNumber_31 (by decide) ?_
    exact xR_iret 32 rfl rfl dR_takeNumber_32
  · refine xR_aln 12 0 dR_takeNumber_12 rfl rfl ?_
    refine xR_getf 13 xcf2 4 83 (by decide) (by decide) rfl (v := .int (r1.1 40 2)) rfl fl_RX2_46 dR_takeNumber_13 ?_
    refine xR_iln 16 1 dR_takeNumber_16 rfl rfl ?_
    refine xR_iln 17 2 dR_takeNumber_17 rfl rfl ?_
    refine xR_callSNi (host := RX8) 18 cs_H_within (by decide +kernel) ⟨Nat.le_of_ble_eq_true rfl, Nat.le_of_ble_eq_true rfl⟩ [.int (r1.1 40 2), .int v1, .int v2] rfl rfl (Nat.le_of_ble_eq_true rfl) dR_takeNumber_18 (kH_within G (r1, z) (r1.1 40 2) v1 v2) (fun r18 => ?_)
    refine xR_ifeq 21 31 dR_takeNumber_21 (by decide) ?_ ?_
    · refine xR_ic 31 (-1 : Int32) dR_takeNumber_31 (by decide) ?_
      exact xR_iret 32 rfl rfl dR_takeNumber_32
    · refine xR_aln 24 0 dR_takeNumber_24 rfl rfl ?_
      refine xR_getf 25 xcf2 4 83 (by decide) (by decide) rfl (v := .int (r1.1 40 2)) rfl fl_RX2_46 dR_takeNumber_25 ?_
      refine xR_goto 28 32 dR_takeNumber_28 (by decide) ?_
      exact xR_iret 32 rfl rfl dR_takeNumber_32
theorem dR_readBoard_0 : decode (xb yyR_readBoard) 0 = .ok (.aload_n 0, 1) := by decide +kernel
theorem dR_readBoard_1 : decode (xb yyR_readBoard) 1 = .ok (.getfield 21, 3) := by decide +kernel
theorem dR_readBoard_4 : decode (xb yyR_readBoard) 4 = .ok (.getfield 81, 3) := by decide +kernel
theorem dR_readBoard_7 : decode (xb yyR_readBoard) 7 = .ok (.invokevirtual 85, 3) := by decide +kernel
theorem dR_readBoard_10 : decode (xb yyR_readBoard) 10 = .ok (.bipush 6, 2) := by decide +kernel
theorem dR_readBoard_12 : decode (xb yyR_readBoard) 12 = .ok (.if_icmp .lt 5, 3) := by decide +kernel
theorem dR_readBoard_15 : decode (xb yyR_readBoard) 15 = .ok (.iconst 0, 1) := by decide +kernel
theorem dR_readBoard_16 : decode (xb yyR_readBoard) 16 = .ok (.ireturn, 1) := by decide +kernel
theorem dR_readBoard_17 : decode (xb yyR_readBoard) 17 = .ok (.aload_n 0, 1) := by decide +kernel
theorem dR_readBoard_18 : decode (xb yyR_readBoard) 18 = .ok (.iconst 0, 1) := by decide +kernel
theorem dR_readBoard_19 : decode (xb yyR_readBoard) 19 = .ok (.iconst 5, 1) := by decide +kernel
theorem dR_readBoard_20 : decode (xb yyR_readBoard) 20 = .ok (.invokevirtual 91, 3) := by decide +kernel
theorem dR_readBoard_23 : decode (xb yyR_readBoard) 23 = .ok (.istore_n 1, 1) := by decide +kernel
theorem dR_readBoard_24 : decode (xb yyR_readBoard) 24 = .ok (.iload_n 1, 1) := by decide +kernel
theorem dR_readBoard_25 : decode (xb yyR_readBoard) 25 = .ok (.iconst (-1), 1) := by decide +kernel
theorem dR_readBoard_26 : decode (xb yyR_readBoard) 26 = .ok (.if_icmp .ne 7, 3) := by decide +kernel
theorem dR_readBoard_29 : decode (xb yyR_readBoard) 29 = .ok (.iconst (-1), 1) := by decide +kernel
theorem dR_readBoard_30 : decode (xb yyR_readBoard) 30 = .ok (.goto 10, 3) := by decide +kernel
theorem dR_readBoard_33 : decode (xb yyR_readBoard) 33 = .ok (.aload_n 0, 1) := by decide +kernel
theorem dR_readBoard_34 : decode (xb yyR_readBoard) 34 = .ok (.iconst 0, 1) := by decide +kernel
theorem dR_readBoard_35 : decode (xb yyR_readBoard) 35 = .ok (.bipush 99, 2) := by decide +kernel
theorem dR_readBoard_37 : decode (xb yyR_readBoard) 37 = .ok (.invokevirtual 91, 3) := by decide +kernel
theorem dR_readBoard_40 : decode (xb yyR_readBoard) 40 = .ok (.istore_n 2, 1) := by decide +kernel
theorem dR_readBoard_41 : decode (xb yyR_readBoard) 41 = .ok (.iload_n 2, 1) := by decide +kernel
theorem dR_readBoard_42 : decode (xb yyR_readBoard) 42 = .ok (.iconst (-1), 1) := by decide +kernel
theorem dR_readBoard_43 : decode (xb yyR_readBoard) 43 = .ok (.if_icmp .ne 7, 3) := by decide +kernel
theorem dR_readBoard_46 : decode (xb yyR_readBoard) 46 = .ok (.iconst (-1), 1) := by decide +kernel
theorem dR_readBoard_47 : decode (xb yyR_readBoard) 47 = .ok (.goto 10, 3) := by decide +kernel
theorem dR_readBoard_50 : decode (xb yyR_readBoard) 50 = .ok (.aload_n 0, 1) := by decide +kernel
theorem dR_readBoard_51 : decode (xb yyR_readBoard) 51 = .ok (.iconst 0, 1) := by decide +kernel
theorem dR_readBoard_52 : decode (xb yyR_readBoard) 52 = .ok (.bipush 9, 2) := by decide +kernel
theorem dR_readBoard_54 : decode (xb yyR_readBoard) 54 = .ok (.invokevirtual 91, 3) := by decide +kernel
theorem dR_readBoard_57 : decode (xb yyR_readBoard) 57 = .ok (.istore_n 3, 1) := by decide +kernel
theorem dR_readBoard_58 : decode (xb yyR_readBoard) 58 = .ok (.iload_n 3, 1) := by decide +kernel
theorem dR_readBoard_59 : decode (xb yyR_readBoard) 59 = .ok (.iconst (-1), 1) := by decide +kernel
theorem dR_readBoard_60 : decode (xb yyR_readBoard) 60 = .ok (.if_icmp .ne 7, 3) := by decide +kernel
theorem dR_readBoard_63 : decode (xb yyR_readBoard) 63 = .ok (.iconst (-1), 1) := by decide +kernel
theorem dR_readBoard_64 : decode (xb yyR_readBoard) 64 = .ok (.goto 9, 3) := by decide +kernel
theorem dR_readBoard_67 : decode (xb yyR_readBoard) 67 = .ok (.aload_n 0, 1) := by decide +kernel
theorem dR_readBoard_68 : decode (xb yyR_readBoard) 68 = .ok (.iconst 0, 1) := by decide +kernel
theorem dR_readBoard_69 : decode (xb yyR_readBoard) 69 = .ok (.iconst 3, 1) := by decide +kernel
theorem dR_readBoard_70 : decode (xb yyR_readBoard) 70 = .ok (.invokevirtual 91, 3) := by decide +kernel
theorem dR_readBoard_73 : decode (xb yyR_readBoard) 73 = .ok (.istore 4, 2) := by decide +kernel
theorem dR_readBoard_75 : decode (xb yyR_readBoard) 75 = .ok (.iload 4, 2) := by decide +kernel
theorem dR_readBoard_77 : decode (xb yyR_readBoard) 77 = .ok (.iconst (-1), 1) := by decide +kernel
theorem dR_readBoard_78 : decode (xb yyR_readBoard) 78 = .ok (.if_icmp .ne 5, 3) := by decide +kernel
theorem dR_readBoard_81 : decode (xb yyR_readBoard) 81 = .ok (.iconst 0, 1) := by decide +kernel
theorem dR_readBoard_82 : decode (xb yyR_readBoard) 82 = .ok (.ireturn, 1) := by decide +kernel
theorem dR_readBoard_83 : decode (xb yyR_readBoard) 83 = .ok (.aload_n 0, 1) := by decide +kernel
theorem dR_readBoard_84 : decode (xb yyR_readBoard) 84 = .ok (.getfield 21, 3) := by decide +kernel
theorem dR_readBoard_87 : decode (xb yyR_readBoard) 87 = .ok (.getfield 81, 3) := by decide +kernel
theorem dR_readBoard_90 : decode (xb yyR_readBoard) 90 = .ok (.iload_n 1, 1) := by decide +kernel
theorem dR_readBoard_91 : decode (xb yyR_readBoard) 91 = .ok (.iload_n 2, 1) := by decide +kernel
theorem dR_readBoard_92 : decode (xb yyR_readBoard) 92 = .ok (.iload_n 3, 1) := by decide +kernel
theorem dR_readBoard_93 : decode (xb yyR_readBoard) 93 = .ok (.iload 4, 2) := by decide +kernel
theorem dR_readBoard_95 : decode (xb yyR_readBoard) 95 = .ok (.invokevirtual 95, 3) := by decide +kernel
theorem dR_readBoard_98 : decode (xb yyR_readBoard) 98 = .ok (.pop, 1) := by decide +kernel
theorem dR_readBoard_99 : decode (xb yyR_readBoard) 99 = .ok (.aload_n 0, 1) := by decide +kernel
theorem dR_readBoard_100 : decode (xb yyR_readBoard) 100 = .ok (.invokevirtual 49, 3) := by decide +kernel
theorem dR_readBoard_103 : decode (xb yyR_readBoard) 103 = .ok (.ireturn, 1) := by decide +kernel
def fR_readBoard_b73  (v1 : Int32) (v2 : Int32) (v3 : Int32) (s0 : Int32) (m : xM) : Option (Int32 × xM) := (if s0 = (-1 : Int32) then some ((xnb (0 : Int32)), m) else (fB_bring 3 v1 v2 v3 s0 m).bind fun r95 => (fR_takeStop r95.2).bind fun r100 => some ((xnb r100.1), r100.2))
def fR_readBoard_b57  (v1 : Int32) (v2 : Int32) (s0 : Int32) (m : xM) : Option (Int32 × xM) := (if s0 = (-1 : Int32) then fR_readBoard_b73 v1 v2 s0 (-1 : Int32) m else (fR_takeNumber (0 : Int32) (3 : Int32) m).bind fun r70 => fR_readBoard_b73 v1 v2 s0 r70.1 r70.2)
def fR_readBoard_b40  (v1 : Int32) (s0 : Int32) (m : xM) : Option (Int32 × xM) := (if s0 = (-1 : Int32) then fR_readBoard_b57 v1 s0 (-1 : Int32) m else (fR_takeNumber (0 : Int32) (9 : Int32) m).bind fun r54 => fR_readBoard_b57 v1 s0 r54.1 r54.2)
def fR_readBoard  (m : xM) : Option (Int32 × xM) := (fB_many 3 m).bind fun r7 => (if r7 < (6 : Int32) then (fR_takeNumber (0 : Int32) (5 : Int32) m).bind fun r20 => (if r20.1 = (-1 : Int32) then fR_readBoard_b40 r20.1 (-1 : Int32) r20.2 else (fR_takeNumber (0 : Int32) (99 : Int32) r20.2).bind fun r37 => fR_readBoard_b40 r20.1 r37.1 r37.2) else some ((xnb (0 : Int32)), m))
set_option maxRecDepth 100000 in
set_option maxHeartbeats 4000000 in
theorem kR_readBoard_b73 (G : xG)   (z : xM)    (v1 : Int32) (v2 : Int32) (v3 : Int32) (s0 : Int32) (m : xM) : xR G yyR_readBoard (emic z) 73 [(0, .ref (xa G 83)), (1, .int v1), (2, .int v2), (3, .int v3)] [.int s0] (m, z) (fR_readBoard_b73  v1 v2 v3 s0 m) := by
  unfold fR_readBoard_b73
  refine xR_is 73 ([(4, .int s0), (0, .ref (xa G 83)), (1, .int v1), (2, .int v2), (3, .int v3)]) dR_readBoard_73 (by decide) rfl ?_
  refine xR_il 75 0 dR_readBoard_75 rfl ?_
  refine xR_ic 77 (-1 : Int32) dR_readBoard_77 (by decide) ?_
  refine xR_icne 78 83 dR_readBoard_78 (by decide) ?_ ?_
  · refine xR_aln 83 1 dR_readBoard_83 rfl rfl ?_
    refine xR_getf 84 xcf2 1 83 (by decide) (by decide) rfl (v := .ref (xa G 80)) rfl fl_RX2_21 dR_readBoard_84 ?_
    refine xR_getf 87 xcf5 0 80 (by decide) (by decide) (xC_twn (t := 3) (by decide)) (v := .ref (xa G 75)) rfl fl_RX2_81 dR_readBoard_87 ?_
    refine xR_iln 90 2 dR_readBoard_90 rfl rfl ?_
    refine xR_iln 91 3 dR_readBoard_91 rfl rfl ?_
    refine xR_iln 92 4 dR_readBoard_92 rfl rfl ?_
    refine xR_il 93 0 dR_readBoard_93 rfl ?_
    refine xR_callVic 95 cv_B_bring ml_RX2_95 ⟨Nat.le_of_ble_eq_true rfl, Nat.le_of_ble_eq_true rfl⟩ xcf0 rfl 75 (by decide) (xC_brd (b := 3) (by decide)) [.int v1, .int v2, .int v3, .int s0] rfl rfl (Nat.le_of_ble_eq_true rfl) dR_readBoard_95 (kB_bring G 3 (by decide) z m v1 v2 v3 s0) (fun r95 => ?_)
    refine xR_pop 98 dR_readBoard_98 rfl ?_
    refine xR_aln 99 1 dR_readBoard_99 rfl rfl ?_
    refine xR_callVic 100 cv_R_takeStop ml_RX2_49 ⟨Nat.le_of_ble_eq_true rfl, Nat.le_of_ble_eq_true rfl⟩ xcf2 rfl 83 (by decide) rfl [] rfl rfl (Nat.le_of_ble_eq_true rfl) dR_readBoard_100 (kR_takeStop G z r95.2) (fun r100 => ?_)
    exact xR_zret 103 rfl rfl dR_readBoard_103
  · refine xR_ic 81 (0 : Int32) dR_readBoard_81 (by decide) ?_
    exact xR_zret 82 rfl rfl dR_readBoard_82
set_option maxRecDepth 100000 in
set_option maxHeartbeats 4000000 in
theorem kR_readBoard_b57 (G : xG)   (z : xM)    (v1 : Int32) (v2 : Int32) (s0 : Int32) (m : xM) : xR G yyR_readBoard (emic z) 57 [(0, .ref (xa G 83)), (1, .int v1), (2, .int v2)] [.int s0] (m, z) (fR_readBoard_b57  v1 v2 s0 m) := by
  unfold fR_readBoard_b57
  refine xR_isn 57 ([(3, .int s0), (0, .ref (xa G 83)), (1, .int v1), (2, .int v2)]) dR_readBoard_57 rfl (by decide) rfl ?_
  refine xR_iln 58 0 dR_readBoard_58 rfl rfl ?_
  refine xR_ic 59 (-1 : Int32) dR_readBoard_59 (by decide) ?_
  refine xR_icne 60 67 dR_readBoard_60 (by decide) ?_ ?_
  · refine xR_aln 67 1 dR_readBoard_67 rfl rfl ?_
    refine xR_ic 68 (0 : Int32) dR_readBoard_68 (by decide) ?_
    refine xR_ic 69 (3 : Int32) dR_readBoard_69 (by decide) ?_
    refine xR_callVic 70 cv_R_takeNumber ml_RX2_91 ⟨Nat.le_of_ble_eq_true rfl, Nat.le_of_ble_eq_true rfl⟩ xcf2 rfl 83 (by decide) rfl [.int (0 : Int32), .int (3 : Int32)] rfl rfl (Nat.le_of_ble_eq_true rfl) dR_readBoard_70 (kR_takeNumber G z m (0 : Int32) (3 : Int32)) (fun r70 => ?_)
    exact xR_sub [1, 2, 3, 0] rfl (kR_readBoard_b73 G z v1 v2 s0 r70.1 r70.2)
  · refine xR_ic 63 (-1 : Int32) dR_readBoard_63 (by decide) ?_
    refine xR_goto 64 73 dR_readBoard_64 (by decide) ?_
    exact xR_sub [1, 2, 3, 0] rfl (kR_readBoard_b73 G z v1 v2 s0 (-1 : Int32) m)
set_option maxRecDepth 100000 in
set_option maxHeartbeats 4000000 in
theorem kR_readBoard_b40 (G : xG)   (z : xM)    (v1 : Int32) (s0 : Int32) (m : xM) : xR G yyR_readBoard (emic z) 40 [(0, .ref (xa G 83)), (1, .int v1)] [.int s0] (m, z) (fR_readBoard_b40  v1 s0 m) := by
  unfold fR_readBoard_b40
  refine xR_isn 40 ([(2, .int s0), (0, .ref (xa G 83)), (1, .int v1)]) dR_readBoard_40 rfl (by decide) rfl ?_
  refine xR_iln 41 0 dR_readBoard_41 rfl rfl ?_
  refine xR_ic 42 (-1 : Int32) dR_readBoard_42 (by decide) ?_
  refine xR_icne 43 50 dR_readBoard_43 (by decide) ?_ ?_
  · refine xR_aln 50 1 dR_readBoard_50 rfl rfl ?_
    refine xR_ic 51 (0 : Int32) dR_readBoard_51 (by decide) ?_
    refine xR_bp 52 (9 : Int32) dR_readBoard_52 (by decide) ?_
    refine xR_callVic 54 cv_R_takeNumber ml_RX2_91 ⟨Nat.le_of_ble_eq_true rfl, Nat.le_of_ble_eq_true rfl⟩ xcf2 rfl 83 (by decide) rfl [.int (0 : Int32), .int (9 : Int32)] rfl rfl (Nat.le_of_ble_eq_true rfl) dR_readBoard_54 (kR_takeNumber G z m (0 : Int32) (9 : Int32)) (fun r54 => ?_)
    exact xR_sub [1, 2, 0] rfl (kR_readBoard_b57 G z v1 s0 r54.1 r54.2)
  · refine xR_ic 46 (-1 : Int32) dR_readBoard_46 (by decide) ?_
    refine xR_goto 47 57 dR_readBoard_47 (by decide) ?_
    exact xR_sub [1, 2, 0] rfl (kR_readBoard_b57 G z v1 s0 (-1 : Int32) m)
set_option maxRecDepth 100000 in
set_option maxHeartbeats 4000000 in
theorem kR_readBoard (G : xG)   (z : xM) (m : xM) : ∀ a, fR_readBoard  m = some a → xCt G yyR_readBoard [.ref (xa G 83)] (m, z) (some (.int a.1)) (a.2, z) := by
  refine xR_ct (em := (emic z)) rfl (Nat.le_of_ble_eq_true rfl) ?_
  show xR G yyR_readBoard _ 0 [(0, .ref (xa G 83))] [] _ _
  unfold fR_readBoard
  refine xR_aln 0 0 dR_readBoard_0 rfl rfl ?_
  refine xR_getf 1 xcf2 1 83 (by decide) (by decide) rfl (v := .ref (xa G 80)) rfl fl_RX2_21 dR_readBoard_1 ?_
  refine xR_getf 4 xcf5 0 80 (by decide) (by decide) (xC_twn (t := 3) (by decide)) (v := .ref (xa G 75)) rfl fl_RX2_81 dR_readBoard_4 ?_
  refine xR_callVi 7 cv_B_many ml_RX2_85 ⟨Nat.le_of_ble_eq_true rfl, Nat.le_of_ble_eq_true rfl⟩ xcf0 rfl 75 (by decide) (xC_brd (b := 3) (by decide)) [] rfl rfl (Nat.le_of_ble_eq_true rfl) dR_readBoard_7 (kB_many G 3 (by decide) z m) (fun r7 => ?_)
  refine xR_bp 10 (6 : Int32) dR_readBoard_10 (by decide) ?_
  refine xR_iclt 12 17 dR_readBoard_12 (by decide) ?_ ?_
  · refine xR_aln 17 0 dR_readBoard_17 rfl rfl ?_
    refine xR_ic 18 (0 : Int32) dR_readBoard_18 (by decide) ?_
    refine xR_ic 19 (5 : Int32) dR_readBoard_19 (by decide) ?_
    refine xR_callVic 20 cv_R_takeNumber ml_RX2_91 ⟨Nat.le_of_ble_eq_true rfl, Nat.le_of_ble_eq_true rfl⟩ xcf2 rfl 83 (by decide) rfl [.int (0 : Int32), .int (5 : Int32)] rfl rfl (Nat.le_of_ble_eq_true rfl) dR_readBoard_20 (kR_takeNumber G z m (0 : Int32) (5 : Int32)) (fun r20 => ?_)
    refine xR_isn 23 ([(1, .int r20.1), (0, .ref (xa G 83))]) dR_readBoard_23 rfl (by decide) rfl ?_
    refine xR_iln 24 0 dR_readBoard_24 rfl rfl ?_
    refine xR_ic 25 (-1 : Int32) dR_readBoard_25 (by decide) ?_
    refine xR_icne 26 33 dR_readBoard_26 (by decide) ?_ ?_
    · refine xR_aln 33 1 dR_readBoard_33 rfl rfl ?_
      refine xR_ic 34 (0 : Int32) dR_readBoard_34 (by decide) ?_
      refine xR_bp 35 (99 : Int32) dR_readBoard_35 (by decide) ?_
      refine xR_callVic 37 cv_R_takeNumber ml_RX2_91 ⟨Nat.le_of_ble_eq_true rfl, Nat.le_of_ble_eq_true rfl⟩ xcf2 rfl 83 (by decide) rfl [.int (0 : Int32), .int (99 : Int32)] rfl rfl (Nat.le_of_ble_eq_true rfl) dR_readBoard_37 (kR_takeNumber G z r20.2 (0 : Int32) (99 : Int32)) (fun r37 => ?_)
      exact xR_sub [1, 0] rfl (kR_readBoard_b40 G z r20.1 r37.1 r37.2)
    · refine xR_ic 29 (-1 : Int32) dR_readBoard_29 (by decide) ?_
      refine xR_goto 30 40 dR_readBoard_30 (by decide) ?_
      exact xR_sub [1, 0] rfl (kR_readBoard_b40 G z r20.1 (-1 : Int32) r20.2)
  · refine xR_ic 15 (0 : Int32) dR_readBoard_15 (by decide) ?_
    exact xR_zret 16 rfl rfl dR_readBoard_16
theorem dR_readInstrument_0 : decode (xb yyR_readInstrument) 0 = .ok (.aload_n 0, 1) := by decide +kernel
theorem dR_readInstrument_1 : decode (xb yyR_readInstrument) 1 = .ok (.getfield 21, 3) := by decide +kernel
theorem dR_readInstrument_4 : decode (xb yyR_readInstrument) 4 = .ok (.getfield 99, 3) := by decide +kernel
theorem dR_readInstrument_7 : decode (xb yyR_readInstrument) 7 = .ok (.invokevirtual 102, 3) := by decide +kernel
theorem dR_readInstrument_10 : decode (xb yyR_readInstrument) 10 = .ok (.iconst 4, 1) := by decide +kernel
theorem dR_readInstrument_11 : decode (xb yyR_readInstrument) 11 = .ok (.if_icmp .lt 5, 3) := by decide +kernel
theorem dR_readInstrument_14 : decode (xb yyR_readInstrument) 14 = .ok (.iconst 0, 1) := by decide +kernel
theorem dR_readInstrument_15 : decode (xb yyR_readInstrument) 15 = .ok (.ireturn, 1) := by decide +kernel
theorem dR_readInstrument_16 : decode (xb yyR_readInstrument) 16 = .ok (.aload_n 0, 1) := by decide +kernel
theorem dR_readInstrument_17 : decode (xb yyR_readInstrument) 17 = .ok (.iconst 0, 1) := by decide +kernel
theorem dR_readInstrument_18 : decode (xb yyR_readInstrument) 18 = .ok (.iconst 5, 1) := by decide +kernel
theorem dR_readInstrument_19 : decode (xb yyR_readInstrument) 19 = .ok (.invokevirtual 91, 3) := by decide +kernel
theorem dR_readInstrument_22 : decode (xb yyR_readInstrument) 22 = .ok (.istore_n 1, 1) := by decide +kernel
theorem dR_readInstrument_23 : decode (xb yyR_readInstrument) 23 = .ok (.iload_n 1, 1) := by decide +kernel
theorem dR_readInstrument_24 : decode (xb yyR_readInstrument) 24 = .ok (.iconst (-1), 1) := by decide +kernel
theorem dR_readInstrument_25 : decode (xb yyR_readInstrument) 25 = .ok (.if_icmp .ne 5, 3) := by decide +kernel
theorem dR_readInstrument_28 : decode (xb yyR_readInstrument) 28 = .ok (.iconst 0, 1) := by decide +kernel
theorem dR_readInstrument_29 : decode (xb yyR_readInstrument) 29 = .ok (.ireturn, 1) := by decide +kernel
theorem dR_readInstrument_30 : decode (xb yyR_readInstrument) 30 = .ok (.aload_n 0, 1) := by decide +kernel
theorem dR_readInstrument_31 : decode (xb yyR_readInstrument) 31 = .ok (.getfield 21, 3) := by decide +kernel
theorem dR_readInstrument_34 : decode (xb yyR_readInstrument) 34 = .ok (.iload_n 1, 1) := by decide +kernel
theorem dR_readInstrument_35 : decode (xb yyR_readInstrument) 35 = .ok (.invokevirtual 103, 3) := by decide +kernel
theorem dR_readInstrument_38 : decode (xb yyR_readInstrument) 38 = .ok (.pop, 1) := by decide +kernel
theorem dR_readInstrument_39 : decode (xb yyR_readInstrument) 39 = .ok (.aload_n 0, 1) := by decide +kernel
theorem dR_readInstrument_40 : decode (xb yyR_readInstrument) 40 = .ok (.invokevirtual 49, 3) := by decide +kernel
theorem dR_readInstrument_43 : decode (xb yyR_readInstrument) 43 = .ok (.ireturn, 1) := by decide +kernel
def fR_readInstrument  (m : xM) : Option (Int32 × xM) := (fT_many 24 m).bind fun r7 => (if r7 < (4 : Int32) then (fR_takeNumber (0 : Int32) (5 : Int32) m).bind fun r19 => (if r19.1 = (-1 : Int32) then some ((xnb (0 : Int32)), r19.2) else (fW_bringInstrument 3 r19.1 r19.2).bind fun r35 => (fR_takeStop r35.2).bind fun r40 => some ((xnb r40.1), r40.2)) else some ((xnb (0 : Int32)), m))
set_option maxRecDepth 100000 in
set_option maxHeartbeats 4000000 in
theorem kR_readInstrument (G : xG)   (z : xM) (m : xM) : ∀ a, fR_readInstrument  m = some a → xCt G yyR_readInstrument [.ref (xa G 83)] (m, z) (some (.int a.1)) (a.2, z) := by
  refine xR_ct (em := (emic z)) rfl (Nat.le_of_ble_eq_true rfl) ?_
  show xR G yyR_readInstrument _ 0 [(0, .ref (xa G 83))] [] _ _
  unfold fR_readInstrument
  refine xR_aln 0 0 dR_readInstrument_0 rfl rfl ?_
  refine xR_getf 1 xcf2 1 83 (by decide) (by decide) rfl (v := .ref (xa G 80)) rfl fl_RX2_21 dR_readInstrument_1 ?_
  refine xR_getf 4 xcf5 3 80 (by decide) (by decide) (xC_twn (t := 3) (by decide)) (v := .ref (xa G 60)) rfl fl_RX2_99 dR_readInstrument_4 ?_
  refine xR_callVi 7 cv_T_many ml_RX2_102 ⟨Nat.le_of_ble_eq_true rfl, Nat.le_of_ble_eq_true rfl⟩ xcf3 rfl 60 (by decide) (xC_tab (t := 24) (by decide)) [] rfl rfl (Nat.le_of_ble_eq_true rfl) dR_readInstrument_7 (kT_many G 24 (by decide) z m) (fun r7 => ?_)
  refine xR_ic 10 (4 : Int32) dR_readInstrument_10 (by decide) ?_
  refine xR_iclt 11 16 dR_readInstrument_11 (by decide) ?_ ?_
  · refine xR_aln 16 0 dR_readInstrument_16 rfl rfl ?_
    refine xR_ic 17 (0 : Int32) dR_readInstrument_17 (by decide) ?_
    refine xR_ic 18 (5 : Int32) dR_readInstrument_18 (by decide) ?_
    refine xR_callVic 19 cv_R_takeNumber ml_RX2_91 ⟨Nat.le_of_ble_eq_true rfl, Nat.le_of_ble_eq_true rfl⟩ xcf2 rfl 83 (by decide) rfl [.int (0 : Int32), .int (5 : Int32)] rfl rfl (Nat.le_of_ble_eq_true rfl) dR_readInstrument_19 (kR_takeNumber G z m (0 : Int32) (5 : Int32)) (fun r19 => ?_)
    refine xR_isn 22 ([(1, .int r19.1), (0, .ref (xa G 83))]) dR_readInstrument_22 rfl (by decide) rfl ?_
    refine xR_iln 23 0 dR_readInstrument_23 rfl rfl ?_
    refine xR_ic 24 (-1 : Int32) dR_readInstrument_24 (by decide) ?_
    refine xR_icne 25 30 dR_readInstrument_25 (by decide) ?_ ?_
    · refine xR_aln 30 1 dR_readInstrument_30 rfl rfl ?_
      refine xR_getf 31 xcf2 1 83 (by decide) (by decide) rfl (v := .ref (xa G 80)) rfl fl_RX2_21 dR_readInstrument_31 ?_
      refine xR_iln 34 0 dR_readInstrument_34 rfl rfl ?_
      refine xR_callVic 35 cv_W_bringInstrument ml_RX2_103 ⟨Nat.le_of_ble_eq_true rfl, Nat.le_of_ble_eq_true rfl⟩ xcf5 rfl 80 (by decide) (xC_twn (t := 3) (by decide)) [.int r19.1] rfl rfl (Nat.le_of_ble_eq_true rfl) dR_readInstrument_35 (kW_bringInstrument G 3 (by decide) z r19.2 r19.1) (fun r35 => ?_)
      refine xR_pop 38 dR_readInstrument_38 rfl ?_
      refine xR_aln 39 1 dR_readInstrument_39 rfl rfl ?_
      refine xR_callVic 40 cv_R_takeStop ml_RX2_49 ⟨Nat.le_of_ble_eq_true rfl, Nat.le_of_ble_eq_true rfl⟩ xcf2 rfl 83 (by decide) rfl [] rfl rfl (Nat.le_of_ble_eq_true rfl) dR_readInstrument_40 (kR_takeStop G z r35.2) (fun r40 => ?_)
      exact xR_zret 43 rfl rfl dR_readInstrument_43
    · refine xR_ic 28 (0 : Int32) dR_readInstrument_28 (by decide) ?_
      exact xR_zret 29 rfl rfl dR_readInstrument_29
  · refine xR_ic 14 (0 : Int32) dR_readInstrument_14 (by decide) ?_
    exact xR_zret 15 rfl rfl dR_readInstrument_15
theorem dR_readCut_0 : decode (xb yyR_readCut) 0 = .ok (.aload_n 0, 1) := by decide +kernel
theorem dR_readCut_1 : decode (xb yyR_readCut) 1 = .ok (.iconst 0, 1) := by decide +kernel
theorem dR_readCut_2 : decode (xb yyR_readCut) 2 = .ok (.aload_n 0, 1) := by decide +kernel
theorem dR_readCut_3 : decode (xb yyR_readCut) 3 = .ok (.getfield 21, 3) := by decide +kernel
theorem dR_readCut_6 : decode (xb yyR_readCut) 6 = .ok (.getfield 81, 3) := by decide +kernel
theorem dR_readCut_9 : decode (xb yyR_readCut) 9 = .ok (.invokevirtual 85, 3) := by decide +kernel
theorem dR_readCut_12 : decode (xb yyR_readCut) 12 = .ok (.iconst 1, 1) := by decide +kernel
theorem dR_readCut_13 : decode (xb yyR_readCut) 13 = .ok (.isub, 1) := by decide +kernel
theorem dR_readCut_14 : decode (xb yyR_readCut) 14 = .ok (.invokevirtual 91, 3) := by decide +kernel
theorem dR_readCut_17 : decode (xb yyR_readCut) 17 = .ok (.istore_n 1, 1) := by decide +kernel
theorem dR_readCut_18 : decode (xb yyR_readCut) 18 = .ok (.iload_n 1, 1) := by decide +kernel
theorem dR_readCut_19 : decode (xb yyR_readCut) 19 = .ok (.iconst (-1), 1) := by decide +kernel
theorem dR_readCut_20 : decode (xb yyR_readCut) 20 = .ok (.if_icmp .eq 17, 3) := by decide +kernel
theorem dR_readCut_23 : decode (xb yyR_readCut) 23 = .ok (.aload_n 0, 1) := by decide +kernel
theorem dR_readCut_24 : decode (xb yyR_readCut) 24 = .ok (.getfield 21, 3) := by decide +kernel
theorem dR_readCut_27 : decode (xb yyR_readCut) 27 = .ok (.getfield 81, 3) := by decide +kernel
theorem dR_readCut_30 : decode (xb yyR_readCut) 30 = .ok (.iload_n 1, 1) := by decide +kernel
theorem dR_readCut_31 : decode (xb yyR_readCut) 31 = .ok (.invokevirtual 107, 3) := by decide +kernel
theorem dR_readCut_34 : decode (xb yyR_readCut) 34 = .ok (.ifCond .ne 5, 3) := by decide +kernel
theorem dR_readCut_37 : decode (xb yyR_readCut) 37 = .ok (.iconst 0, 1) := by decide +kernel
theorem dR_readCut_38 : decode (xb yyR_readCut) 38 = .ok (.ireturn, 1) := by decide +kernel
theorem dR_readCut_39 : decode (xb yyR_readCut) 39 = .ok (.aload_n 0, 1) := by decide +kernel
theorem dR_readCut_40 : decode (xb yyR_readCut) 40 = .ok (.iconst 0, 1) := by decide +kernel
theorem dR_readCut_41 : decode (xb yyR_readCut) 41 = .ok (.aload_n 0, 1) := by decide +kernel
theorem dR_readCut_42 : decode (xb yyR_readCut) 42 = .ok (.getfield 21, 3) := by decide +kernel
theorem dR_readCut_45 : decode (xb yyR_readCut) 45 = .ok (.getfield 99, 3) := by decide +kernel
theorem dR_readCut_48 : decode (xb yyR_readCut) 48 = .ok (.invokevirtual 102, 3) := by decide +kernel
theorem dR_readCut_51 : decode (xb yyR_readCut) 51 = .ok (.iconst 1, 1) := by decide +kernel
theorem dR_readCut_52 : decode (xb yyR_readCut) 52 = .ok (.isub, 1) := by decide +kernel
theorem dR_readCut_53 : decode (xb yyR_readCut) 53 = .ok (.invokevirtual 91, 3) := by decide +kernel
theorem dR_readCut_56 : decode (xb yyR_readCut) 56 = .ok (.istore_n 2, 1) := by decide +kernel
theorem dR_readCut_57 : decode (xb yyR_readCut) 57 = .ok (.iload_n 2, 1) := by decide +kernel
theorem dR_readCut_58 : decode (xb yyR_readCut) 58 = .ok (.iconst (-1), 1) := by decide +kernel
theorem dR_readCut_59 : decode (xb yyR_readCut) 59 = .ok (.if_icmp .eq 18, 3) := by decide +kernel
theorem dR_readCut_62 : decode (xb yyR_readCut) 62 = .ok (.aload_n 0, 1) := by decide +kernel
theorem dR_readCut_63 : decode (xb yyR_readCut) 63 = .ok (.getfield 21, 3) := by decide +kernel
theorem dR_readCut_66 : decode (xb yyR_readCut) 66 = .ok (.getfield 81, 3) := by decide +kernel
theorem dR_readCut_69 : decode (xb yyR_readCut) 69 = .ok (.iload_n 2, 1) := by decide +kernel
theorem dR_readCut_70 : decode (xb yyR_readCut) 70 = .ok (.invokevirtual 111, 3) := by decide +kernel
theorem dR_readCut_73 : decode (xb yyR_readCut) 73 = .ok (.iconst 4, 1) := by decide +kernel
theorem dR_readCut_74 : decode (xb yyR_readCut) 74 = .ok (.if_icmp .lt 5, 3) := by decide +kernel
theorem dR_readCut_77 : decode (xb yyR_readCut) 77 = .ok (.iconst 0, 1) := by decide +kernel
theorem dR_readCut_78 : decode (xb yyR_readCut) 78 = .ok (.ireturn, 1) := by decide +kernel
theorem dR_readCut_79 : decode (xb yyR_readCut) 79 = .ok (.aload_n 0, 1) := by decide +kernel
theorem dR_readCut_80 : decode (xb yyR_readCut) 80 = .ok (.getfield 21, 3) := by decide +kernel
theorem dR_readCut_83 : decode (xb yyR_readCut) 83 = .ok (.getfield 81, 3) := by decide +kernel
theorem dR_readCut_86 : decode (xb yyR_readCut) 86 = .ok (.iload_n 1, 1) := by decide +kernel
theorem dR_readCut_87 : decode (xb yyR_readCut) 87 = .ok (.iconst 5, 1) := by decide +kernel
theorem dR_readCut_88 : decode (xb yyR_readCut) 88 = .ok (.iload_n 2, 1) := by decide +kernel
theorem dR_readCut_89 : decode (xb yyR_readCut) 89 = .ok (.invokevirtual 114, 3) := by decide +kernel
theorem dR_readCut_92 : decode (xb yyR_readCut) 92 = .ok (.aload_n 0, 1) := by decide +kernel
theorem dR_readCut_93 : decode (xb yyR_readCut) 93 = .ok (.invokevirtual 49, 3) := by decide +kernel
theorem dR_readCut_96 : decode (xb yyR_readCut) 96 = .ok (.ireturn, 1) := by decide +kernel
def fR_readCut  (m : xM) : Option (Int32 × xM) := (fB_many 3 m).bind fun r9 => (fR_takeNumber (0 : Int32) (r9 - (1 : Int32)) m).bind fun r14 => (if r14.1 = (-1 : Int32) then some ((xnb (0 : Int32)), r14.2) else (fB_isFree 3 r14.2 r14.1).bind fun r31 => (if r31 = 0 then some ((xnb (0 : Int32)), r14.2) else (fT_many 24 r14.2).bind fun r48 => (fR_takeNumber (0 : Int32) (r48 - (1 : Int32)) r14.2).bind fun r53 => (if r53.1 = (-1 : Int32) then some ((xnb (0 : Int32)), r53.2) else (fB_manyIn 3 r53.2 r53.1).bind fun r70 => (if r70 < (4 : Int32) then (fB_set 3 r14.1 (5 : Int32) r53.1 r53.2).bind fun r89 => (fR_takeStop r89).bind fun r93 => some ((xnb r93.1), r93.2) else some ((xnb (0 : Int32)), r53.2)))))
set_option maxRecDepth 100000 in
set_option maxHeartbeats 4000000 in
theorem kR_readCut (G : xG)   (z : xM) (m : xM) : ∀ a, fR_readCut  m = some a → xCt G yyR_readCut [.ref (xa G 83)] (m, z) (some (.int a.1)) (a.2, z) := by
  refine xR_ct (em := (emic z)) rfl (Nat.le_of_ble_eq_true rfl) ?_
  show xR G yyR_readCut _ 0 [(0, .ref (xa G 83))] [] _ _
  unfold fR_readCut
  refine xR_aln 0 0 dR_readCut_0 rfl rfl ?_
  refine xR_ic 1 (0 : Int32) dR_readCut_1 (by decide) ?_
  refine xR_aln 2 0 dR_readCut_2 rfl rfl ?_
  refine xR_getf 3 xcf2 1 83 (by decide) (by decide) rfl (v := .ref (xa G 80)) rfl fl_RX2_21 dR_readCut_3 ?_
  refine xR_getf 6 xcf5 0 80 (by decide) (by decide) (xC_twn (t := 3) (by decide)) (v := .ref (xa G 75)) rfl fl_RX2_81 dR_readCut_6 ?_
  refine xR_callVi 9 cv_B_many ml_RX2_85 ⟨Nat.le_of_ble_eq_true rfl, Nat.le_of_ble_eq_true rfl⟩ xcf0 rfl 75 (by decide) (xC_brd (b := 3) (by decide)) [] rfl rfl (Nat.le_of_ble_eq_true rfl) dR_readCut_9 (kB_many G 3 (by decide) z m) (fun r9 => ?_)
  refine xR_ic 12 (1 : Int32) dR_readCut_12 (by decide) ?_
  refine xR_isub 13 dR_readCut_13 ?_
  refine xR_callVic 14 cv_R_takeNumber ml_RX2_91 ⟨Nat.le_of_ble_eq_true rfl, Nat.le_of_ble_eq_true rfl⟩ xcf2 rfl 83 (by decide) rfl [.int (0 : Int32), .int (r9 - (1 : Int32))] rfl rfl (Nat.le_of_ble_eq_true rfl) dR_readCut_14 (kR_takeNumber G z m (0 : Int32) (r9 - (1 : Int32))) (fun r14 => ?_)
  refine xR_isn 17 ([(1, .int r14.1), (0, .ref (xa G 83))]) dR_readCut_17 rfl (by decide) rfl ?_
  refine xR_iln 18 0 dR_readCut_18 rfl rfl ?_
  refine xR_ic 19 (-1 : Int32) dR_readCut_19 (by decide) ?_
  refine xR_iceq 20 37 dR_readCut_20 (by decide) ?_ ?_
  · refine xR_ic 37 (0 : Int32) dR_readCut_37 (by decide) ?_
    exact xR_zret 38 rfl rfl dR_readCut_38
  · refine xR_aln 23 1 dR_readCut_23 rfl rfl ?_
    refine xR_getf 24 xcf2 1 83 (by decide) (by decide) rfl (v := .ref (xa G 80)) rfl fl_RX2_21 dR_readCut_24 ?_
    refine xR_getf 27 xcf5 0 80 (by decide) (by decide) (xC_twn (t := 3) (by decide)) (v := .ref (xa G 75)) rfl fl_RX2_81 dR_readCut_27 ?_
    refine xR_iln 30 0 dR_readCut_30 rfl rfl ?_
    refine xR_callVi 31 cv_B_isFree ml_RX2_107 ⟨Nat.le_of_ble_eq_true rfl, Nat.le_of_ble_eq_true rfl⟩ xcf0 rfl 75 (by decide) (xC_brd (b := 3) (by decide)) [.int r14.1] rfl rfl (Nat.le_of_ble_eq_true rfl) dR_readCut_31 (kB_isFree G 3 (by decide) z r14.2 r14.1) (fun r31 => ?_)
    refine xR_ifne 34 39 dR_readCut_34 (by decide) ?_ ?_
    · refine xR_aln 39 1 dR_readCut_39 rfl rfl ?_
      refine xR_ic 40 (0 : Int32) dR_readCut_40 (by decide) ?_
      refine xR_aln 41 1 dR_readCut_41 rfl rfl ?_
      refine xR_getf 42 xcf2 1 83 (by decide) (by decide) rfl (v := .ref (xa G 80)) rfl fl_RX2_21 dR_readCut_42 ?_
      refine xR_getf 45 xcf5 3 80 (by decide) (by decide) (xC_twn (t := 3) (by decide)) (v := .ref (xa G 60)) rfl fl_RX2_99 dR_readCut_45 ?_
      refine xR_callVi 48 cv_T_many ml_RX2_102 ⟨Nat.le_of_ble_eq_true rfl, Nat.le_of_ble_eq_true rfl⟩ xcf3 rfl 60 (by decide) (xC_tab (t := 24) (by decide)) [] rfl rfl (Nat.le_of_ble_eq_true rfl) dR_readCut_48 (kT_many G 24 (by decide) z r14.2) (fun r48 => ?_)
      refine xR_ic 51 (1 : Int32) dR_readCut_51 (by decide) ?_
      refine xR_isub 52 dR_readCut_52 ?_
      refine xR_callVic 53 cv_R_takeNumber ml_RX2_91 ⟨Nat.le_of_ble_eq_true rfl, Nat.le_of_ble_eq_true rfl⟩ xcf2 rfl 83 (by decide) rfl [.int (0 : Int32), .int (r48 - (1 : Int32))] rfl rfl (Nat.le_of_ble_eq_true rfl) dR_readCut_53 (kR_takeNumber G z r14.2 (0 : Int32) (r48 - (1 : Int32))) (fun r53 => ?_)
      refine xR_isn 56 ([(2, .int r53.1), (1, .int r14.1), (0, .ref (xa G 83))]) dR_readCut_56 rfl (by decide) rfl ?_
      refine xR_iln 57 0 dR_readCut_57 rfl rfl ?_
      refine xR_ic 58 (-1 : Int32) dR_readCut_58 (by decide) ?_
      refine xR_iceq 59 77 dR_readCut_59 (by decide) ?_ ?_
      · refine xR_ic 77 (0 : Int32) dR_readCut_77 (by decide) ?_
        exact xR_zret 78 rfl rfl dR_readCut_78
      · refine xR_aln 62 2 dR_readCut_62 rfl rfl ?_
        refine xR_getf 63 xcf2 1 83 (by decide) (by decide) rfl (v := .ref (xa G 80)) rfl fl_RX2_21 dR_readCut_63 ?_
        refine xR_getf 66 xcf5 0 80 (by decide) (by decide) (xC_twn (t := 3) (by decide)) (v := .ref (xa G 75)) rfl fl_RX2_81 dR_readCut_66 ?_
        refine xR_iln 69 0 dR_readCut_69 rfl rfl ?_
        refine xR_callVi 70 cv_B_manyIn ml_RX2_111 ⟨Nat.le_of_ble_eq_true rfl, Nat.le_of_ble_eq_true rfl⟩ xcf0 rfl 75 (by decide) (xC_brd (b := 3) (by decide)) [.int r53.1] rfl rfl (Nat.le_of_ble_eq_true rfl) dR_readCut_70 (kB_manyIn G 3 (by decide) z r53.2 r53.1) (fun r70 => ?_)
        refine xR_ic 73 (4 : Int32) dR_readCut_73 (by decide) ?_
        refine xR_iclt 74 79 dR_readCut_74 (by decide) ?_ ?_
        · refine xR_aln 79 2 dR_readCut_79 rfl rfl ?_
          refine xR_getf 80 xcf2 1 83 (by decide) (by decide) rfl (v := .ref (xa G 80)) rfl fl_RX2_21 dR_readCut_80 ?_
          refine xR_getf 83 xcf5 0 80 (by decide) (by decide) (xC_twn (t := 3) (by decide)) (v := .ref (xa G 75)) rfl fl_RX2_81 dR_readCut_83 ?_
          refine xR_iln 86 1 dR_readCut_86 rfl rfl ?_
          refine xR_ic 87 (5 : Int32) dR_readCut_87 (by decide) ?_
          refine xR_iln 88 0 dR_readCut_88 rfl rfl ?_
          refine xR_callVvc 89 cv_B_set ml_RX2_114 ⟨Nat.le_of_ble_eq_true rfl, Nat.le_of_ble_eq_true rfl⟩ xcf0 rfl 75 (by decide) (xC_brd (b := 3) (by decide)) [.int r14.1, .int (5 : Int32), .int r53.1] rfl rfl (Nat.le_of_ble_eq_true rfl) dR_readCut_89 (kB_set G 3 (by decide) z r53.2 r14.1 (5 : Int32) r53.1) (fun r89 => ?_)
          refine xR_aln 92 2 dR_readCut_92 rfl rfl ?_
          refine xR_callVic 93 cv_R_takeStop ml_RX2_49 ⟨Nat.le_of_ble_eq_true rfl, Nat.le_of_ble_eq_true rfl⟩ xcf2 rfl 83 (by decide) rfl [] rfl rfl (Nat.le_of_ble_eq_true rfl) dR_readCut_93 (kR_takeStop G z r89) (fun r93 => ?_)
          exact xR_zret 96 rfl rfl dR_readCut_96
        · refine xR_ic 77 (0 : Int32) dR_readCut_77 (by decide) ?_
          exact xR_zret 78 rfl rfl dR_readCut_78
    · refine xR_ic 37 (0 : Int32) dR_readCut_37 (by decide) ?_
      exact xR_zret 38 rfl rfl dR_readCut_38
theorem dR_readWorm_0 : decode (xb yyR_readWorm) 0 = .ok (.aload_n 0, 1) := by decide +kernel
theorem dR_readWorm_1 : decode (xb yyR_readWorm) 1 = .ok (.iconst 0, 1) := by decide +kernel
theorem dR_readWorm_2 : decode (xb yyR_readWorm) 2 = .ok (.aload_n 0, 1) := by decide +kernel
theorem dR_readWorm_3 : decode (xb yyR_readWorm) 3 = .ok (.getfield 21, 3) := by decide +kernel
theorem dR_readWorm_6 : decode (xb yyR_readWorm) 6 = .ok (.getfield 81, 3) := by decide +kernel
theorem dR_readWorm_9 : decode (xb yyR_readWorm) 9 = .ok (.invokevirtual 85, 3) := by decide +kernel
theorem dR_readWorm_12 : decode (xb yyR_readWorm) 12 = .ok (.iconst 1, 1) := by decide +kernel
theorem dR_readWorm_13 : decode (xb yyR_readWorm) 13 = .ok (.isub, 1) := by decide +kernel
theorem dR_readWorm_14 : decode (xb yyR_readWorm) 14 = .ok (.invokevirtual 91, 3) := by decide +kernel
theorem dR_readWorm_17 : decode (xb yyR_readWorm) 17 = .ok (.istore_n 1, 1) := by decide +kernel
theorem dR_readWorm_18 : decode (xb yyR_readWorm) 18 = .ok (.iload_n 1, 1) := by decide +kernel
theorem dR_readWorm_19 : decode (xb yyR_readWorm) 19 = .ok (.iconst (-1), 1) := by decide +kernel
theorem dR_readWorm_20 : decode (xb yyR_readWorm) 20 = .ok (.if_icmp .ne 5, 3) := by decide +kernel
theorem dR_readWorm_23 : decode (xb yyR_readWorm) 23 = .ok (.iconst 0, 1) := by decide +kernel
theorem dR_readWorm_24 : decode (xb yyR_readWorm) 24 = .ok (.ireturn, 1) := by decide +kernel
theorem dR_readWorm_25 : decode (xb yyR_readWorm) 25 = .ok (.aload_n 0, 1) := by decide +kernel
theorem dR_readWorm_26 : decode (xb yyR_readWorm) 26 = .ok (.getfield 21, 3) := by decide +kernel
theorem dR_readWorm_29 : decode (xb yyR_readWorm) 29 = .ok (.getfield 81, 3) := by decide +kernel
theorem dR_readWorm_32 : decode (xb yyR_readWorm) 32 = .ok (.iload_n 1, 1) := by decide +kernel
theorem dR_readWorm_33 : decode (xb yyR_readWorm) 33 = .ok (.iconst 4, 1) := by decide +kernel
theorem dR_readWorm_34 : decode (xb yyR_readWorm) 34 = .ok (.iconst 1, 1) := by decide +kernel
theorem dR_readWorm_35 : decode (xb yyR_readWorm) 35 = .ok (.invokevirtual 114, 3) := by decide +kernel
theorem dR_readWorm_38 : decode (xb yyR_readWorm) 38 = .ok (.aload_n 0, 1) := by decide +kernel
theorem dR_readWorm_39 : decode (xb yyR_readWorm) 39 = .ok (.invokevirtual 49, 3) := by decide +kernel
theorem dR_readWorm_42 : decode (xb yyR_readWorm) 42 = .ok (.ireturn, 1) := by decide +kernel
def fR_readWorm  (m : xM) : Option (Int32 × xM) := (fB_many 3 m).bind fun r9 => (fR_takeNumber (0 : Int32) (r9 - (1 : Int32)) m).bind fun r14 => (if r14.1 = (-1 : Int32) then some ((xnb (0 : Int32)), r14.2) else (fB_set 3 r14.1 (4 : Int32) (1 : Int32) r14.2).bind fun r35 => (fR_takeStop r35).bind fun r39 => some ((xnb r39.1), r39.2))
set_option maxRecDepth 100000 in
set_option maxHeartbeats 4000000 in
theorem kR_readWorm (G : xG)   (z : xM) (m : xM) : ∀ a, fR_readWorm  m = some a → xCt G yyR_readWorm [.ref (xa G 83)] (m, z) (some (.int a.1)) (a.2, z) := by
  refine xR_ct (em := (emic z)) rfl (Nat.le_of_ble_eq_true rfl) ?_
  show xR G yyR_readWorm _ 0 [(0, .ref (xa G 83))] [] _ _
  unfold fR_readWorm
  refine xR_aln 0 0 dR_readWorm_0 rfl rfl ?_
  refine xR_ic 1 (0 : Int32) dR_readWorm_1 (by decide) ?_
  refine xR_aln 2 0 dR_readWorm_2 rfl rfl ?_
  refine xR_getf 3 xcf2 1 83 (by decide) (by decide) rfl (v := .ref (xa G 80)) rfl fl_RX2_21 dR_readWorm_3 ?_
  refine xR_getf 6 xcf5 0 80 (by decide) (by decide) (xC_twn (t := 3) (by decide)) (v := .ref (xa G 75)) rfl fl_RX2_81 dR_readWorm_6 ?_
  refine xR_callVi 9 cv_B_many ml_RX2_85 ⟨Nat.le_of_ble_eq_true rfl, Nat.le_of_ble_eq_true rfl⟩ xcf0 rfl 75 (by decide) (xC_brd (b := 3) (by decide)) [] rfl rfl (Nat.le_of_ble_eq_true rfl) dR_readWorm_9 (kB_many G 3 (by decide) z m) (fun r9 => ?_)
  refine xR_ic 12 (1 : Int32) dR_readWorm_12 (by decide) ?_
  refine xR_isub 13 dR_readWorm_13 ?_
  refine xR_callVic 14 cv_R_takeNumber ml_RX2_91 ⟨Nat.le_of_ble_eq_true rfl, Nat.le_of_ble_eq_true rfl⟩ xcf2 rfl 83 (by decide) rfl [.int (0 : Int32), .int (r9 - (1 : Int32))] rfl rfl (Nat.le_of_ble_eq_true rfl) dR_readWorm_14 (kR_takeNumber G z m (0 : Int32) (r9 - (1 : Int32))) (fun r14 => ?_)
  refine xR_isn 17 ([(1, .int r14.1), (0, .ref (xa G 83))]) dR_readWorm_17 rfl (by decide) rfl ?_
  refine xR_iln 18 0 dR_readWorm_18 rfl rfl ?_
  refine xR_ic 19 (-1 : Int32) dR_readWorm_19 (by decide) ?_
  refine xR_icne 20 25 dR_readWorm_20 (by decide) ?_ ?_
  · refine xR_aln 25 1 dR_readWorm_25 rfl rfl ?_
    refine xR_getf 26 xcf2 1 83 (by decide) (by decide) rfl (v := .ref (xa G 80)) rfl fl_RX2_21 dR_readWorm_26 ?_
    refine xR_getf 29 xcf5 0 80 (by decide) (by decide) (xC_twn (t := 3) (by decide)) (v := .ref (xa G 75)) rfl fl_RX2_81 dR_readWorm_29 ?_
    refine xR_iln 32 0 dR_readWorm_32 rfl rfl ?_
    refine xR_ic 33 (4 : Int32) dR_readWorm_33 (by decide) ?_
    refine xR_ic 34 (1 : Int32) dR_readWorm_34 (by decide) ?_
    refine xR_callVvc 35 cv_B_set ml_RX2_114 ⟨Nat.le_of_ble_eq_true rfl, Nat.le_of_ble_eq_true rfl⟩ xcf0 rfl 75 (by decide) (xC_brd (b := 3) (by decide)) [.int r14.1, .int (4 : Int32), .int (1 : Int32)] rfl rfl (Nat.le_of_ble_eq_true rfl) dR_readWorm_35 (kB_set G 3 (by decide) z r14.2 r14.1 (4 : Int32) (1 : Int32)) (fun r35 => ?_)
    refine xR_aln 38 1 dR_readWorm_38 rfl rfl ?_
    refine xR_callVic 39 cv_R_takeStop ml_RX2_49 ⟨Nat.le_of_ble_eq_true rfl, Nat.le_of_ble_eq_true rfl⟩ xcf2 rfl 83 (by decide) rfl [] rfl rfl (Nat.le_of_ble_eq_true rfl) dR_readWorm_39 (kR_takeStop G z r35) (fun r39 => ?_)
    exact xR_zret 42 rfl rfl dR_readWorm_42
  · refine xR_ic 23 (0 : Int32) dR_readWorm_23 (by decide) ?_
    exact xR_zret 24 rfl rfl dR_readWorm_24
theorem dR_readYears_0 : decode (xb yyR_readYears) 0 = .ok (.aload_n 0, 1) := by decide +kernel
theorem dR_readYears_1 : decode (xb yyR_readYears) 1 = .ok (.iconst 1, 1) := by decide +kernel
theorem dR_readYears_2 : decode (xb yyR_readYears) 2 = .ok (.bipush 99, 2) := by decide +kernel
theorem dR_readYears_4 : decode (xb yyR_readYears) 4 = .ok (.invokevirtual 91, 3) := by decide +kernel
theorem dR_readYears_7 : decode (xb yyR_readYears) 7 = .ok (.istore_n 1, 1) := by decide +kernel
theorem dR_readYears_8 : decode (xb yyR_readYears) 8 = .ok (.iload_n 1, 1) := by decide +kernel
theorem dR_readYears_9 : decode (xb yyR_readYears) 9 = .ok (.iconst (-1), 1) := by decide +kernel
theorem dR_readYears_10 : decode (xb yyR_readYears) 10 = .ok (.if_icmp .ne 5, 3) := by decide +kernel
theorem dR_readYears_13 : decode (xb yyR_readYears) 13 = .ok (.iconst 0, 1) := by decide +kernel
theorem dR_readYears_14 : decode (xb yyR_readYears) 14 = .ok (.ireturn, 1) := by decide +kernel
theorem dR_readYears_15 : decode (xb yyR_readYears) 15 = .ok (.aload_n 0, 1) := by decide +kernel
theorem dR_readYears_16 : decode (xb yyR_readYears) 16 = .ok (.getfield 21, 3) := by decide +kernel
theorem dR_readYears_19 : decode (xb yyR_readYears) 19 = .ok (.iload_n 1, 1) := by decide +kernel
theorem dR_readYears_20 : decode (xb yyR_readYears) 20 = .ok (.invokevirtual 117, 3) := by decide +kernel
theorem dR_readYears_23 : decode (xb yyR_readYears) 23 = .ok (.aload_n 0, 1) := by decide +kernel
theorem dR_readYears_24 : decode (xb yyR_readYears) 24 = .ok (.invokevirtual 49, 3) := by decide +kernel
theorem dR_readYears_27 : decode (xb yyR_readYears) 27 = .ok (.ireturn, 1) := by decide +kernel
def fR_readYears  (m : xM) : Option (Int32 × xM) := (fR_takeNumber (1 : Int32) (99 : Int32) m).bind fun r4 => (if r4.1 = (-1 : Int32) then some ((xnb (0 : Int32)), r4.2) else (fW_passYears 3 r4.1 r4.2).bind fun r20 => (fR_takeStop r20).bind fun r24 => some ((xnb r24.1), r24.2))
set_option maxRecDepth 100000 in
set_option maxHeartbeats 4000000 in
theorem kR_readYears (G : xG)   (z : xM) (m : xM) : ∀ a, fR_readYears  m = some a → xCt G yyR_readYears [.ref (xa G 83)] (m, z) (some (.int a.1)) (a.2, z) := by
  refine xR_ct (em := (emic z)) rfl (Nat.le_of_ble_eq_true rfl) ?_
  show xR G yyR_readYears _ 0 [(0, .ref (xa G 83))] [] _ _
  unfold fR_readYears
  refine xR_aln 0 0 dR_readYears_0 rfl rfl ?_
  refine xR_ic 1 (1 : Int32) dR_readYears_1 (by decide) ?_
  refine xR_bp 2 (99 : Int32) dR_readYears_2 (by decide) ?_
  refine xR_callVic 4 cv_R_takeNumber ml_RX2_91 ⟨Nat.le_of_ble_eq_true rfl, Nat.le_of_ble_eq_true rfl⟩ xcf2 rfl 83 (by decide) rfl [.int (1 : Int32), .int (99 : Int32)] rfl rfl (Nat.le_of_ble_eq_true rfl) dR_readYears_4 (kR_takeNumber G z m (1 : Int32) (99 : Int32)) (fun r4 => ?_)
  refine xR_isn 7 ([(1, .int r4.1), (0, .ref (xa G 83))]) dR_readYears_7 rfl (by decide) rfl ?_
  refine xR_iln 8 0 dR_readYears_8 rfl rfl ?_
  refine xR_ic 9 (-1 : Int32) dR_readYears_9 (by decide) ?_
  refine xR_icne 10 15 dR_readYears_10 (by decide) ?_ ?_
  · refine xR_aln 15 1 dR_readYears_15 rfl rfl ?_
    refine xR_getf 16 xcf2 1 83 (by decide) (by decide) rfl (v := .ref (xa G 80)) rfl fl_RX2_21 dR_readYears_16 ?_
    refine xR_iln 19 0 dR_readYears_19 rfl rfl ?_
    refine xR_callVvc 20 cv_W_passYears ml_RX2_117 ⟨Nat.le_of_ble_eq_true rfl, Nat.le_of_ble_eq_true rfl⟩ xcf5 rfl 80 (by decide) (xC_twn (t := 3) (by decide)) [.int r4.1] rfl rfl (Nat.le_of_ble_eq_true rfl) dR_readYears_20 (kW_passYears G 3 (by decide) z r4.2 r4.1) (fun r20 => ?_)
    refine xR_aln 23 1 dR_readYears_23 rfl rfl ?_
    refine xR_callVic 24 cv_R_takeStop ml_RX2_49 ⟨Nat.le_of_ble_eq_true rfl, Nat.le_of_ble_eq_true rfl⟩ xcf2 rfl 83 (by decide) rfl [] rfl rfl (Nat.le_of_ble_eq_true rfl) dR_readYears_24 (kR_takeStop G z r20) (fun r24 => ?_)
    exact xR_zret 27 rfl rfl dR_readYears_27
  · refine xR_ic 13 (0 : Int32) dR_readYears_13 (by decide) ?_
    exact xR_zret 14 rfl rfl dR_readYears_14
theorem dR_readItem_0 : decode (xb yyR_readItem) 0 = .ok (.aload_n 0, 1) := by decide +kernel
theorem dR_readItem_1 : decode (xb yyR_readItem) 1 = .ok (.getfield 35, 3) := by decide +kernel
theorem dR_readItem_4 : decode (xb yyR_readItem) 4 = .ok (.ifCond .ne 19, 3) := by decide +kernel
theorem dR_readItem_7 : decode (xb yyR_readItem) 7 = .ok (.aload_n 0, 1) := by decide +kernel
theorem dR_readItem_8 : decode (xb yyR_readItem) 8 = .ok (.getfield 46, 3) := by decide +kernel
theorem dR_readItem_11 : decode (xb yyR_readItem) 11 = .ok (.ifCond .ne 7, 3) := by decide +kernel
theorem dR_readItem_14 : decode (xb yyR_readItem) 14 = .ok (.iconst 1, 1) := by decide +kernel
theorem dR_readItem_15 : decode (xb yyR_readItem) 15 = .ok (.goto 4, 3) := by decide +kernel
theorem dR_readItem_18 : decode (xb yyR_readItem) 18 = .ok (.iconst 0, 1) := by decide +kernel
theorem dR_readItem_19 : decode (xb yyR_readItem) 19 = .ok (.iload_n 1, 1) := by decide +kernel
theorem dR_readItem_20 : decode (xb yyR_readItem) 20 = .ok (.if_icmp .eq 5, 3) := by decide +kernel
theorem dR_readItem_23 : decode (xb yyR_readItem) 23 = .ok (.iconst 0, 1) := by decide +kernel
theorem dR_readItem_24 : decode (xb yyR_readItem) 24 = .ok (.ireturn, 1) := by decide +kernel
theorem dR_readItem_25 : decode (xb yyR_readItem) 25 = .ok (.aload_n 0, 1) := by decide +kernel
theorem dR_readItem_26 : decode (xb yyR_readItem) 26 = .ok (.getfield 46, 3) := by decide +kernel
theorem dR_readItem_29 : decode (xb yyR_readItem) 29 = .ok (.tableswitch 78 0 6 #[43, 48, 53, 58, 63, 68, 73], 43) := by decide +kernel
theorem dR_readItem_72 : decode (xb yyR_readItem) 72 = .ok (.aload_n 0, 1) := by decide +kernel
theorem dR_readItem_73 : decode (xb yyR_readItem) 73 = .ok (.invokevirtual 49, 3) := by decide +kernel
theorem dR_readItem_76 : decode (xb yyR_readItem) 76 = .ok (.ireturn, 1) := by decide +kernel
theorem dR_readItem_77 : decode (xb yyR_readItem) 77 = .ok (.aload_n 0, 1) := by decide +kernel
theorem dR_readItem_78 : decode (xb yyR_readItem) 78 = .ok (.invokevirtual 53, 3) := by decide +kernel
theorem dR_readItem_81 : decode (xb yyR_readItem) 81 = .ok (.ireturn, 1) := by decide +kernel
theorem dR_readItem_82 : decode (xb yyR_readItem) 82 = .ok (.aload_n 0, 1) := by decide +kernel
theorem dR_readItem_83 : decode (xb yyR_readItem) 83 = .ok (.invokevirtual 56, 3) := by decide +kernel
theorem dR_readItem_86 : decode (xb yyR_readItem) 86 = .ok (.ireturn, 1) := by decide +kernel
theorem dR_readItem_87 : decode (xb yyR_readItem) 87 = .ok (.aload_n 0, 1) := by decide +kernel
theorem dR_readItem_88 : decode (xb yyR_readItem) 88 = .ok (.invokevirtual 59, 3) := by decide +kernel
theorem dR_readItem_91 : decode (xb yyR_readItem) 91 = .ok (.ireturn, 1) := by decide +kernel
theorem dR_readItem_92 : decode (xb yyR_readItem) 92 = .ok (.aload_n 0, 1) := by decide +kernel
theorem dR_readItem_93 : decode (xb yyR_readItem) 93 = .ok (.invokevirtual 62, 3) := by decide +kernel
theorem dR_readItem_96 : decode (xb yyR_readItem) 96 = .ok (.ireturn, 1) := by decide +kernel
theorem dR_readItem_97 : decode (xb yyR_readItem) 97 = .ok (.aload_n 0, 1) := by decide +kernel
theorem dR_readItem_98 : decode (xb yyR_readItem) 98 = .ok (.invokevirtual 65, 3) := by decide +kernel
theorem dR_readItem_101 : decode (xb yyR_readItem) 101 = .ok (.ireturn, 1) := by decide +kernel
theorem dR_readItem_102 : decode (xb yyR_readItem) 102 = .ok (.aload_n 0, 1) := by decide +kernel
theorem dR_readItem_103 : decode (xb yyR_readItem) 103 = .ok (.invokevirtual 68, 3) := by decide +kernel
theorem dR_readItem_106 : decode (xb yyR_readItem) 106 = .ok (.ireturn, 1) := by decide +kernel
theorem dR_readItem_107 : decode (xb yyR_readItem) 107 = .ok (.iconst 0, 1) := by decide +kernel
theorem dR_readItem_108 : decode (xb yyR_readItem) 108 = .ok (.ireturn, 1) := by decide +kernel
def fR_readItem_b19  (v1 : Int32) (s0 : Int32) (m : xM) : Option (Int32 × xM) := (if s0 = v1 then (if (m.1 40 2) = (0 : Int32) then (fR_takeStop m).bind fun r73 => some ((xnb r73.1), r73.2) else (if (m.1 40 2) = (1 : Int32) then (fR_readWets m).bind fun r78 => some ((xnb r78.1), r78.2) else (if (m.1 40 2) = (2 : Int32) then (fR_readBoard m).bind fun r83 => some ((xnb r83.1), r83.2) else (if (m.1 40 2) = (3 : Int32) then (fR_readInstrument m).bind fun r88 => some ((xnb r88.1), r88.2) else (if (m.1 40 2) = (4 : Int32) then (fR_readCut m).bind fun r93 => some ((xnb r93.1), r93.2) else (if (m.1 40 2) = (5 : Int32) then (fR_readWorm m).bind fun r98 => some ((xnb r98.1), r98.2) else (if (m.1 40 2) = (6 : Int32) then (fR_readYears m).bind fun r103 => some ((xnb r103.1), r103.2) else some ((xnb (0 : Int32)), m)))))))) else some ((xnb (0 : Int32)), m))
def fR_readItem  (v1 : Int32) (m : xM) : Option (Int32 × xM) := (if (m.1 40 0) = 0 then (if (m.1 40 2) = 0 then fR_readItem_b19 v1 (1 : Int32) m else fR_readItem_b19 v1 (0 : Int32) m) else some ((xnb (0 : Int32)), m))
set_option maxRecDepth 100000 in
set_option maxHeartbeats 4000000 in
theorem kR_readItem_b19 (G : xG)   (z : xM)    (v1 : Int32) (s0 : Int32) (m : xM) : xR G yyR_readItem (emic z) 19 [(0, .ref (xa G 83)), (1, .int v1)] [.int s0] (m, z) (fR_readItem_b19  v1 s0 m) := by
  unfold fR_readItem_b19
  refine xR_iln 19 1 dR_readItem_19 rfl rfl ?_
  refine xR_iceq 20 25 dR_readItem_20 (by decide) ?_ ?_
  · refine xR_aln 25 0 dR_readItem_25 rfl rfl ?_
    refine xR_getf 26 xcf2 4 83 (by decide) (by decide) rfl (v := .int (m.1 40 2)) rfl fl_RX2_46 dR_readItem_26 ?_
    refine xR_tsw 29 72 (0 : Int32) dR_readItem_29 (by decide) (by decide) rfl (by decide) ?_ (fun hs29_0 => ?_)
    · refine xR_aln 72 0 dR_readItem_72 rfl rfl ?_
      refine xR_callVic 73 cv_R_takeStop ml_RX2_49 ⟨Nat.le_of_ble_eq_true rfl, Nat.le_of_ble_eq_true rfl⟩ xcf2 rfl 83 (by decide) rfl [] rfl rfl (Nat.le_of_ble_eq_true rfl) dR_readItem_73 (kR_takeStop G z m) (fun r73 => ?_)
      exact xR_zret 76 rfl rfl dR_readItem_76
    refine xR_tsw 29 77 (1 : Int32) dR_readItem_29 (by decide) (by decide) rfl (by decide) ?_ (fun hs29_1 => ?_)
    · refine xR_aln 77 0 dR_readItem_77 rfl rfl ?_
      refine xR_callVic 78 cv_R_readWets ml_RX2_53 ⟨Nat.le_of_ble_eq_true rfl, Nat.le_of_ble_eq_true rfl⟩ xcf2 rfl 83 (by decide) rfl [] rfl rfl (Nat.le_of_ble_eq_true rfl) dR_readItem_78 (kR_readWets G z m) (fun r78 => ?_)
      exact xR_zret 81 rfl rfl dR_readItem_81
    refine xR_tsw 29 82 (2 : Int32) dR_readItem_29 (by decide) (by decide) rfl (by decide) ?_ (fun hs29_2 => ?_)
    · refine xR_aln 82 0 dR_readItem_82 rfl rfl ?_
      refine xR_callVic 83 cv_R_readBoard ml_RX2_56 ⟨Nat.le_of_ble_eq_true rfl, Nat.le_of_ble_eq_true rfl⟩ xcf2 rfl 83 (by decide) rfl [] rfl rfl (Nat.le_of_ble_eq_true rfl) dR_readItem_83 (kR_readBoard G z m) (fun r83 => ?_)
      exact xR_zret 86 rfl rfl dR_readItem_86
    refine xR_tsw 29 87 (3 : Int32) dR_readItem_29 (by decide) (by decide) rfl (by decide) ?_ (fun hs29_3 => ?_)
    · refine xR_aln 87 0 dR_readItem_87 rfl rfl ?_
      refine xR_callVic 88 cv_R_readInstrument ml_RX2_59 ⟨Nat.le_of_ble_eq_true rfl, Nat.le_of_ble_eq_true rfl⟩ xcf2 rfl 83 (by decide) rfl [] rfl rfl (Nat.le_of_ble_eq_true rfl) dR_readItem_88 (kR_readInstrument G z m) (fun r88 => ?_)
      exact xR_zret 91 rfl rfl dR_readItem_91
    refine xR_tsw 29 92 (4 : Int32) dR_readItem_29 (by decide) (by decide) rfl (by decide) ?_ (fun hs29_4 => ?_)
    · refine xR_aln 92 0 dR_readItem_92 rfl rfl ?_
      refine xR_callVic 93 cv_R_readCut ml_RX2_62 ⟨Nat.le_of_ble_eq_true rfl, Nat.le_of_ble_eq_true rfl⟩ xcf2 rfl 83 (by decide) rfl [] rfl rfl (Nat.le_of_ble_eq_true rfl) dR_readItem_93 (kR_readCut G z m) (fun r93 => ?_)
      exact xR_zret 96 rfl rfl dR_readItem_96
    refine xR_tsw 29 97 (5 : Int32) dR_readItem_29 (by decide) (by decide) rfl (by decide) ?_ (fun hs29_5 => ?_)
    · refine xR_aln 97 0 dR_readItem_97 rfl rfl ?_
      refine xR_callVic 98 cv_R_readWorm ml_RX2_65 ⟨Nat.le_of_ble_eq_true rfl, Nat.le_of_ble_eq_true rfl⟩ xcf2 rfl 83 (by decide) rfl [] rfl rfl (Nat.le_of_ble_eq_true rfl) dR_readItem_98 (kR_readWorm G z m) (fun r98 => ?_)
      exact xR_zret 101 rfl rfl dR_readItem_101
    refine xR_tsw 29 102 (6 : Int32) dR_readItem_29 (by decide) (by decide) rfl (by decide) ?_ (fun hs29_6 => ?_)
    · refine xR_aln 102 0 dR_readItem_102 rfl rfl ?_
      refine xR_callVic 103 cv_R_readYears ml_RX2_68 ⟨Nat.le_of_ble_eq_true rfl, Nat.le_of_ble_eq_true rfl⟩ xcf2 rfl 83 (by decide) rfl [] rfl rfl (Nat.le_of_ble_eq_true rfl) dR_readItem_103 (kR_readYears G z m) (fun r103 => ?_)
      exact xR_zret 106 rfl rfl dR_readItem_106
    refine xR_tso 29 107 dR_readItem_29 (by have e0 := lv_neT hs29_0 (a := 0) rfl; have e1 := lv_neT hs29_1 (a := 1) rfl; have e2 := lv_neT hs29_2 (a := 2) rfl; have e3 := lv_neT hs29_3 (a := 3) rfl; have e4 := lv_neT hs29_4 (a := 4) rfl; have e5 := lv_neT hs29_5 (a := 5) rfl; have e6 := lv_neT hs29_6 (a := 6) rfl; omega) (by decide) ?_
    refine xR_ic 107 (0 : Int32) dR_readItem_107 (by decide) ?_
    exact xR_zret 108 rfl rfl dR_readItem_108
  · refine xR_ic 23 (0 : Int32) dR_readItem_23 (by decide) ?_
    exact xR_zret 24 rfl rfl dR_readItem_24
set_option maxRecDepth 100000 in
set_option maxHeartbeats 4000000 in
theorem kR_readItem (G : xG)   (z : xM) (m : xM) (v1 : Int32) : ∀ a, fR_readItem  v1 m = some a → xCt G yyR_readItem [.ref (xa G 83), .int v1] (m, z) (some (.int a.1)) (a.2, z) := by
  refine xR_ct (em := (emic z)) rfl (Nat.le_of_ble_eq_true rfl) ?_
  show xR G yyR_readItem _ 0 [(0, .ref (xa G 83)), (1, .int v1)] [] _ _
  unfold fR_readItem
  refine xR_aln 0 0 dR_readItem_0 rfl rfl ?_
  refine xR_getf 1 xcf2 2 83 (by decide) (by decide) rfl (v := .int (m.1 40 0)) rfl fl_RX2_35 dR_readItem_1 ?_
  refine xR_ifne 4 23 dR_readItem_4 (by decide) ?_ ?_
  · refine xR_ic 23 (0 : Int32) dR_readItem_23 (by decide) ?_
    exact xR_zret 24 rfl rfl dR_readItem_24
  · refine xR_aln 7 0 dR_readItem_7 rfl rfl ?_
    refine xR_getf 8 xcf2 4 83 (by decide) (by decide) rfl (v := .int (m.1 40 2)) rfl fl_RX2_46 dR_readItem_8 ?_
    refine xR_ifne 11 18 dR_readItem_11 (by decide) ?_ ?_
    · refine xR_ic 18 (0 : Int32) dR_readItem_18 (by decide) ?_
      exact kR_readItem_b19 G z v1 (0 : Int32) m
    · refine xR_ic 14 (1 : Int32) dR_readItem_14 (by decide) ?_
      refine xR_goto 15 19 dR_readItem_15 (by decide) ?_
      exact kR_readItem_b19 G z v1 (1 : Int32) m
theorem dR_readAll_0 : decode (xb yyR_readAll) 0 = .ok (.aload_n 0, 1) := by decide +kernel
theorem dR_readAll_1 : decode (xb yyR_readAll) 1 = .ok (.getfield 21, 3) := by decide +kernel
theorem dR_readAll_4 : decode (xb yyR_readAll) 4 = .ok (.invokevirtual 25, 3) := by decide +kernel
theorem dR_readAll_7 : decode (xb yyR_readAll) 7 = .ok (.aload_n 0, 1) := by decide +kernel
theorem dR_readAll_8 : decode (xb yyR_readAll) 8 = .ok (.getfield 12, 3) := by decide +kernel
theorem dR_readAll_11 : decode (xb yyR_readAll) 11 = .ok (.aload_n 1, 1) := by decide +kernel
theorem dR_readAll_12 : decode (xb yyR_readAll) 12 = .ok (.invokevirtual 28, 3) := by decide +kernel
theorem dR_readAll_15 : decode (xb yyR_readAll) 15 = .ok (.iconst 0, 1) := by decide +kernel
theorem dR_readAll_16 : decode (xb yyR_readAll) 16 = .ok (.istore_n 2, 1) := by decide +kernel
theorem dR_readAll_17 : decode (xb yyR_readAll) 17 = .ok (.iload_n 2, 1) := by decide +kernel
theorem dR_readAll_18 : decode (xb yyR_readAll) 18 = .ok (.sipush 150, 3) := by decide +kernel
theorem dR_readAll_21 : decode (xb yyR_readAll) 21 = .ok (.if_icmp .gt 51, 3) := by decide +kernel
theorem dR_readAll_24 : decode (xb yyR_readAll) 24 = .ok (.aload_n 0, 1) := by decide +kernel
theorem dR_readAll_25 : decode (xb yyR_readAll) 25 = .ok (.invokevirtual 32, 3) := by decide +kernel
theorem dR_readAll_28 : decode (xb yyR_readAll) 28 = .ok (.aload_n 0, 1) := by decide +kernel
theorem dR_readAll_29 : decode (xb yyR_readAll) 29 = .ok (.getfield 35, 3) := by decide +kernel
theorem dR_readAll_32 : decode (xb yyR_readAll) 32 = .ok (.iconst 3, 1) := by decide +kernel
theorem dR_readAll_33 : decode (xb yyR_readAll) 33 = .ok (.if_icmp .ne 9, 3) := by decide +kernel
theorem dR_readAll_36 : decode (xb yyR_readAll) 36 = .ok (.iload_n 2, 1) := by decide +kernel
theorem dR_readAll_37 : decode (xb yyR_readAll) 37 = .ok (.ifCond .le 5, 3) := by decide +kernel
theorem dR_readAll_40 : decode (xb yyR_readAll) 40 = .ok (.iload_n 2, 1) := by decide +kernel
theorem dR_readAll_41 : decode (xb yyR_readAll) 41 = .ok (.ireturn, 1) := by decide +kernel
theorem dR_readAll_42 : decode (xb yyR_readAll) 42 = .ok (.aload_n 0, 1) := by decide +kernel
theorem dR_readAll_43 : decode (xb yyR_readAll) 43 = .ok (.iload_n 2, 1) := by decide +kernel
theorem dR_readAll_44 : decode (xb yyR_readAll) 44 = .ok (.ifCond .ne 7, 3) := by decide +kernel
theorem dR_readAll_47 : decode (xb yyR_readAll) 47 = .ok (.iconst 1, 1) := by decide +kernel
theorem dR_readAll_48 : decode (xb yyR_readAll) 48 = .ok (.goto 4, 3) := by decide +kernel
theorem dR_readAll_51 : decode (xb yyR_readAll) 51 = .ok (.iconst 0, 1) := by decide +kernel
theorem dR_readAll_52 : decode (xb yyR_readAll) 52 = .ok (.invokevirtual 39, 3) := by decide +kernel
theorem dR_readAll_55 : decode (xb yyR_readAll) 55 = .ok (.ifCond .ne 11, 3) := by decide +kernel
theorem dR_readAll_58 : decode (xb yyR_readAll) 58 = .ok (.bipush (-10), 2) := by decide +kernel
theorem dR_readAll_60 : decode (xb yyR_readAll) 60 = .ok (.aload_n 0, 1) := by decide +kernel
theorem dR_readAll_61 : decode (xb yyR_readAll) 61 = .ok (.getfield 43, 3) := by decide +kernel
theorem dR_readAll_64 : decode (xb yyR_readAll) 64 = .ok (.isub, 1) := by decide +kernel
theorem dR_readAll_65 : decode (xb yyR_readAll) 65 = .ok (.ireturn, 1) := by decide +kernel
theorem dR_readAll_66 : decode (xb yyR_readAll) 66 = .ok (.iinc 2 1, 3) := by decide +kernel
theorem dR_readAll_69 : decode (xb yyR_readAll) 69 = .ok (.goto (-52), 3) := by decide +kernel
theorem dR_readAll_72 : decode (xb yyR_readAll) 72 = .ok (.bipush (-10), 2) := by decide +kernel
theorem dR_readAll_74 : decode (xb yyR_readAll) 74 = .ok (.aload_n 0, 1) := by decide +kernel
theorem dR_readAll_75 : decode (xb yyR_readAll) 75 = .ok (.getfield 43, 3) := by decide +kernel
theorem dR_readAll_78 : decode (xb yyR_readAll) 78 = .ok (.isub, 1) := by decide +kernel
theorem dR_readAll_79 : decode (xb yyR_readAll) 79 = .ok (.ireturn, 1) := by decide +kernel
def fR_readAll_b52 (t1 : Nat) (k17 : Int32 → xM → Option (Int32 × xM)) (v2 : Int32) (s0 : Int32) (m : xM) : Option (Int32 × xM) := (fR_readItem s0 m).bind fun r52 => (if r52.1 = 0 then some (((-10 : Int32) - (r52.2.1 40 1)), r52.2) else k17 (v2 + 1) r52.2)
def fR_readAll_b42 (t1 : Nat) (k17 : Int32 → xM → Option (Int32 × xM)) (v2 : Int32) (m : xM) : Option (Int32 × xM) := (if v2 = 0 then fR_readAll_b52 t1 k17 v2 (1 : Int32) m else fR_readAll_b52 t1 k17 v2 (0 : Int32) m)
def fR_readAll_l17 (t1 : Nat) : Nat → Int32 → xM → Option (Int32 × xM)
  | 0, _, _ => none
  | n + 1, v2, m => (if (150 : Int32) < v2 then some (((-10 : Int32) - (m.1 40 1)), m) else (fR_take m).bind fun r25 => (if (r25.1 40 0) = (3 : Int32) then (if v2 ≤ 0 then fR_readAll_b42 t1 (fR_readAll_l17 t1 n) v2 r25 else some (v2, r25)) else fR_readAll_b42 t1 (fR_readAll_l17 t1 n) v2 r25))
def fR_readAll (t1 : Nat) (m : xM) : Option (Int32 × xM) := (fW_empty 3 m).bind fun r4 => (fO_split t1 r4).bind fun r12 => fR_readAll_l17 t1 xfu (0 : Int32) r12
set_option maxRecDepth 100000 in
set_option maxHeartbeats 4000000 in
theorem kR_readAll_b52 (G : xG) (t1 : Nat) (ht1 : t1 < 36) (z : xM)  (k17 : Int32 → xM → Option (Int32 × xM)) (hk17 : ∀ (v2 : Int32) (m : xM), xR G yyR_readAll (emic z) 17 [(0, .ref (xa G 83)), (2, .int v2)] [] (m, z) (k17 v2 m)) (v2 : Int32) (s0 : Int32) (m : xM) : xR G yyR_readAll (emic z) 52 [(0, .ref (xa G 83)), (2, .int v2)] [.int s0, .ref (xa G 83)] (m, z) (fR_readAll_b52 t1 k17 v2 s0 m) := by
  unfold fR_readAll_b52
  refine xR_callVic 52 cv_R_readItem ml_RX2_39 ⟨Nat.le_of_ble_eq_true rfl, Nat.le_of_ble_eq_true rfl⟩ xcf2 rfl 83 (by decide) rfl [.int s0] rfl rfl (Nat.le_of_ble_eq_true rfl) dR_readAll_52 (kR_readItem G z m s0) (fun r52 => ?_)
  refine xR_ifne 55 66 dR_readAll_55 (by decide) ?_ ?_
  · refine xR_iinc 66 1 (v2 + 1) ([(2, .int (v2 + 1)), (0, .ref (xa G 83))]) dR_readAll_66 rfl rfl (by decide) rfl ?_
    refine xR_goto 69 17 dR_readAll_69 (by decide) ?_
    exact xR_sub [1, 0] rfl (hk17 (v2 + 1) r52.2)
  · refine xR_bp 58 (-10 : Int32) dR_readAll_58 (by decide) ?_
    refine xR_aln 60 0 dR_readAll_60 rfl rfl ?_
    refine xR_getf 61 xcf2 3 83 (by decide) (by decide) rfl (v := .int (r52.2.1 40 1)) rfl fl_RX2_43 dR_readAll_61 ?_
    refine xR_isub 64 dR_readAll_64 ?_
    exact xR_iret 65 rfl rfl dR_readAll_65
set_option maxRecDepth 100000 in
set_option maxHeartbeats 4000000 in
theorem kR_readAll_b42 (G : xG) (t1 : Nat) (ht1 : t1 < 36) (z : xM)  (k17 : Int32 → xM → Option (Int32 × xM)) (hk17 : ∀ (v2 : Int32) (m : xM), xR G yyR_readAll (emic z) 17 [(0, .ref (xa G 83)), (2, .int v2)] [] (m, z) (k17 v2 m)) (v2 : Int32) (m : xM) : xR G yyR_readAll (emic z) 42 [(0, .ref (xa G 83)), (2, .int v2)] [] (m, z) (fR_readAll_b42 t1 k17 v2 m) := by
  unfold fR_readAll_b42
  refine xR_aln 42 0 dR_readAll_42 rfl rfl ?_
  refine xR_iln 43 1 dR_readAll_43 rfl rfl ?_
  refine xR_ifne 44 51 dR_readAll_44 (by decide) ?_ ?_
  · refine xR_ic 51 (0 : Int32) dR_readAll_51 (by decide) ?_
    exact kR_readAll_b52 G t1 ht1 z k17 hk17 v2 (0 : Int32) m
  · refine xR_ic 47 (1 : Int32) dR_readAll_47 (by decide) ?_
    refine xR_goto 48 52 dR_readAll_48 (by decide) ?_
    exact kR_readAll_b52 G t1 ht1 z k17 hk17 v2 (1 : Int32) m
set_option maxRecDepth 100000 in
set_option maxHeartbeats 4000000 in
theorem kR_readAll_l17 (G : xG) (t1 : Nat) (ht1 : t1 < 36) (z : xM)    : ∀ (n : Nat) (v2 : Int32) (m : xM), xR G yyR_readAll (emic z) 17 [(0, .ref (xa G 83)), (2, .int v2)] [] (m, z) (fR_readAll_l17 t1 n v2 m) := by
  intro n
  induction n with
  | zero =>
    intro v2 m
    rw [fR_readAll_l17]
    exact xR_none
  | succ n ih =>
    intro v2 m
    rw [fR_readAll_l17]
    refine xR_iln 17 1 dR_readAll_17 rfl rfl ?_
    refine xR_sp 18 (150 : Int32) dR_readAll_18 (by decide) ?_
    refine xR_icgt 21 72 dR_readAll_21 (by decide) ?_ ?_
    · refine xR_bp 72 (-10 : Int32) dR_readAll_72 (by decide) ?_
      refine xR_aln 74 0 dR_readAll_74 rfl rfl ?_
      refine xR_getf 75 xcf2 3 83 (by decide) (by decide) rfl (v := .int (m.1 40 1)) rfl fl_RX2_43 dR_readAll_75 ?_
      refine xR_isub 78 dR_readAll_78 ?_
      exact xR_iret 79 rfl rfl dR_readAll_79
    · refine xR_aln 24 0 dR_readAll_24 rfl rfl ?_
      refine xR_callVvc 25 cv_R_take ml_RX2_32 ⟨Nat.le_of_ble_eq_true rfl, Nat.le_of_ble_eq_true rfl⟩ xcf2 rfl 83 (by decide) rfl [] rfl rfl (Nat.le_of_ble_eq_true rfl) dR_readAll_25 (kR_take G z m) (fun r25 => ?_)
      refine xR_aln 28 0 dR_readAll_28 rfl rfl ?_
      refine xR_getf 29 xcf2 2 83 (by decide) (by decide) rfl (v := .int (r25.1 40 0)) rfl fl_RX2_35 dR_readAll_29 ?_
      refine xR_ic 32 (3 : Int32) dR_readAll_32 (by decide) ?_
      refine xR_icne 33 42 dR_readAll_33 (by decide) ?_ ?_
      · exact kR_readAll_b42 G t1 ht1 z (fR_readAll_l17 t1 n) ih v2 r25
      · refine xR_iln 36 1 dR_readAll_36 rfl rfl ?_
        refine xR_ifle 37 42 dR_readAll_37 (by decide) ?_ ?_
        · exact kR_readAll_b42 G t1 ht1 z (fR_readAll_l17 t1 n) ih v2 r25
        · refine xR_iln 40 1 dR_readAll_40 rfl rfl ?_
          exact xR_iret 41 rfl rfl dR_readAll_41
set_option maxRecDepth 100000 in
set_option maxHeartbeats 4000000 in
theorem kR_readAll (G : xG) (t1 : Nat) (ht1 : t1 < 36) (z : xM) (m : xM) : ∀ a, fR_readAll t1 m = some a → xCt G yyR_readAll [.ref (xa G 83), .ref (xa G (36 + t1))] (m, z) (some (.int a.1)) (a.2, z) := by
  refine xR_ct (em := (emic z)) rfl (Nat.le_of_ble_eq_true rfl) ?_
  show xR G yyR_readAll _ 0 [(0, .ref (xa G 83)), (1, .ref (xa G (36 + t1)))] [] _ _
  unfold fR_readAll
  refine xR_aln 0 0 dR_readAll_0 rfl rfl ?_
  refine xR_getf 1 xcf2 1 83 (by decide) (by decide) rfl (v := .ref (xa G 80)) rfl fl_RX2_21 dR_readAll_1 ?_
  refine xR_callVvc 4 cv_W_empty ml_RX2_25 ⟨Nat.le_of_ble_eq_true rfl, Nat.le_of_ble_eq_true rfl⟩ xcf5 rfl 80 (by decide) (xC_twn (t := 3) (by decide)) [] rfl rfl (Nat.le_of_ble_eq_true rfl) dR_readAll_4 (kW_empty G 3 (by decide) z m) (fun r4 => ?_)
  refine xR_aln 7 0 dR_readAll_7 rfl rfl ?_
  refine xR_getf 8 xcf2 0 83 (by decide) (by decide) rfl (v := .ref (xa G 84)) rfl fl_RX2_12 dR_readAll_8 ?_
  refine xR_aln 11 1 dR_readAll_11 rfl rfl ?_
  refine xR_callVvc 12 cv_O_split ml_RX2_28 ⟨Nat.le_of_ble_eq_true rfl, Nat.le_of_ble_eq_true rfl⟩ xcf4 rfl 84 (by decide) rfl [.ref (xa G (36 + t1))] rfl rfl (Nat.le_of_ble_eq_true rfl) dR_readAll_12 (kO_split G t1 ht1 z r4) (fun r12 => ?_)
  refine xR_ic 15 (0 : Int32) dR_readAll_15 (by decide) ?_
  refine xR_isn 16 ([(2, .int (0 : Int32)), (0, .ref (xa G 83)), (1, .ref (xa G (36 + t1)))]) dR_readAll_16 rfl (by decide) rfl ?_
  exact xR_sub [1, 0] rfl (kR_readAll_l17 G t1 ht1 z xfu (0 : Int32) r12)
