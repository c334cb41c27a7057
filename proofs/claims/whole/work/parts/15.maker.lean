theorem dK_listen_0 : decode (xb yyK_listen) 0 = .ok (.aload_n 0, 1) := by decide +kernel
theorem dK_listen_1 : decode (xb yyK_listen) 1 = .ok (.aload_n 1, 1) := by decide +kernel
theorem dK_listen_2 : decode (xb yyK_listen) 2 = .ok (.getfield 26, 3) := by decide +kernel
theorem dK_listen_5 : decode (xb yyK_listen) 5 = .ok (.iconst (-1), 1) := by decide +kernel
theorem dK_listen_6 : decode (xb yyK_listen) 6 = .ok (.invokevirtual 32, 3) := by decide +kernel
theorem dK_listen_9 : decode (xb yyK_listen) 9 = .ok (.putfield 38, 3) := by decide +kernel
theorem dK_listen_12 : decode (xb yyK_listen) 12 = .ok (.aload_n 0, 1) := by decide +kernel
theorem dK_listen_13 : decode (xb yyK_listen) 13 = .ok (.aload_n 1, 1) := by decide +kernel
theorem dK_listen_14 : decode (xb yyK_listen) 14 = .ok (.getfield 42, 3) := by decide +kernel
theorem dK_listen_17 : decode (xb yyK_listen) 17 = .ok (.invokevirtual 45, 3) := by decide +kernel
theorem dK_listen_20 : decode (xb yyK_listen) 20 = .ok (.putfield 49, 3) := by decide +kernel
theorem dK_listen_23 : decode (xb yyK_listen) 23 = .ok (.iconst 0, 1) := by decide +kernel
theorem dK_listen_24 : decode (xb yyK_listen) 24 = .ok (.istore_n 3, 1) := by decide +kernel
theorem dK_listen_25 : decode (xb yyK_listen) 25 = .ok (.iload_n 3, 1) := by decide +kernel
theorem dK_listen_26 : decode (xb yyK_listen) 26 = .ok (.aload_n 0, 1) := by decide +kernel
theorem dK_listen_27 : decode (xb yyK_listen) 27 = .ok (.getfield 49, 3) := by decide +kernel
theorem dK_listen_30 : decode (xb yyK_listen) 30 = .ok (.if_icmp .ge 71, 3) := by decide +kernel
theorem dK_listen_33 : decode (xb yyK_listen) 33 = .ok (.aload_n 0, 1) := by decide +kernel
theorem dK_listen_34 : decode (xb yyK_listen) 34 = .ok (.getfield 23, 3) := by decide +kernel
theorem dK_listen_37 : decode (xb yyK_listen) 37 = .ok (.iload_n 3, 1) := by decide +kernel
theorem dK_listen_38 : decode (xb yyK_listen) 38 = .ok (.iconst 0, 1) := by decide +kernel
theorem dK_listen_39 : decode (xb yyK_listen) 39 = .ok (.iconst 0, 1) := by decide +kernel
theorem dK_listen_40 : decode (xb yyK_listen) 40 = .ok (.invokevirtual 51, 3) := by decide +kernel
theorem dK_listen_43 : decode (xb yyK_listen) 43 = .ok (.iconst 0, 1) := by decide +kernel
theorem dK_listen_44 : decode (xb yyK_listen) 44 = .ok (.istore 4, 2) := by decide +kernel
theorem dK_listen_46 : decode (xb yyK_listen) 46 = .ok (.iload 4, 2) := by decide +kernel
theorem dK_listen_48 : decode (xb yyK_listen) 48 = .ok (.aload_n 0, 1) := by decide +kernel
theorem dK_listen_49 : decode (xb yyK_listen) 49 = .ok (.getfield 38, 3) := by decide +kernel
theorem dK_listen_52 : decode (xb yyK_listen) 52 = .ok (.if_icmp .gt 43, 3) := by decide +kernel
theorem dK_listen_55 : decode (xb yyK_listen) 55 = .ok (.iload 4, 2) := by decide +kernel
theorem dK_listen_57 : decode (xb yyK_listen) 57 = .ok (.aload_n 0, 1) := by decide +kernel
theorem dK_listen_58 : decode (xb yyK_listen) 58 = .ok (.getfield 38, 3) := by decide +kernel
theorem dK_listen_61 : decode (xb yyK_listen) 61 = .ok (.invokestatic 55, 3) := by decide +kernel
theorem dK_listen_64 : decode (xb yyK_listen) 64 = .ok (.ifCond .eq 25, 3) := by decide +kernel
theorem dK_listen_67 : decode (xb yyK_listen) 67 = .ok (.aload_n 0, 1) := by decide +kernel
theorem dK_listen_68 : decode (xb yyK_listen) 68 = .ok (.getfield 16, 3) := by decide +kernel
theorem dK_listen_71 : decode (xb yyK_listen) 71 = .ok (.iload_n 3, 1) := by decide +kernel
theorem dK_listen_72 : decode (xb yyK_listen) 72 = .ok (.iload 4, 2) := by decide +kernel
theorem dK_listen_74 : decode (xb yyK_listen) 74 = .ok (.aload_n 1, 1) := by decide +kernel
theorem dK_listen_75 : decode (xb yyK_listen) 75 = .ok (.aload_n 1, 1) := by decide +kernel
theorem dK_listen_76 : decode (xb yyK_listen) 76 = .ok (.getfield 26, 3) := by decide +kernel
theorem dK_listen_79 : decode (xb yyK_listen) 79 = .ok (.iload_n 3, 1) := by decide +kernel
theorem dK_listen_80 : decode (xb yyK_listen) 80 = .ok (.iload_n 2, 1) := by decide +kernel
theorem dK_listen_81 : decode (xb yyK_listen) 81 = .ok (.iload 4, 2) := by decide +kernel
theorem dK_listen_83 : decode (xb yyK_listen) 83 = .ok (.invokevirtual 59, 3) := by decide +kernel
theorem dK_listen_86 : decode (xb yyK_listen) 86 = .ok (.invokevirtual 51, 3) := by decide +kernel
theorem dK_listen_89 : decode (xb yyK_listen) 89 = .ok (.iinc 4 1, 3) := by decide +kernel
theorem dK_listen_92 : decode (xb yyK_listen) 92 = .ok (.goto (-46), 3) := by decide +kernel
theorem dK_listen_95 : decode (xb yyK_listen) 95 = .ok (.iinc 3 1, 3) := by decide +kernel
theorem dK_listen_98 : decode (xb yyK_listen) 98 = .ok (.goto (-73), 3) := by decide +kernel
theorem dK_listen_101 : decode (xb yyK_listen) 101 = .ok (.return_, 1) := by decide +kernel
def fK_listen_b89 (t1 : Nat) (k25 : Int32 → Int32 → xM → Option (xM)) (k46 : Int32 → Int32 → Int32 → xM → Option (xM)) (v2 : Int32) (v3 : Int32) (v4 : Int32) (m : xM) : Option (xM) := k46 v2 v3 (v4 + 1) m
def fK_listen_l46 (t1 : Nat) (k25 : Int32 → Int32 → xM → Option (xM)) : Nat → Int32 → Int32 → Int32 → xM → Option (xM)
  | 0, _, _, _, _ => none
  | n + 1, v2, v3, v4, m => (if (m.1 39 1) < v4 then k25 v2 (v3 + 1) m else (fH_isPartOf v4 (m.1 39 1)).bind fun r61 => (if r61 = 0 then fK_listen_b89 t1 k25 (fK_listen_l46 t1 k25 n) v2 v3 v4 m else (fW_playOn t1 t1 m v3 v2 v4).bind fun r83 => (fT_put 31 v3 v4 r83 m).bind fun r86 => fK_listen_b89 t1 k25 (fK_listen_l46 t1 k25 n) v2 v3 v4 r86))
def fK_listen_l25 (t1 : Nat) : Nat → Int32 → Int32 → xM → Option (xM)
  | 0, _, _, _ => none
  | n + 1, v2, v3, m => (if (m.1 39 0) ≤ v3 then some m else (fT_put 33 v3 (0 : Int32) (0 : Int32) m).bind fun r40 => fK_listen_l46 t1 (fK_listen_l25 t1 n) xfu v2 v3 (0 : Int32) r40)
def fK_listen (t1 : Nat) (v2 : Int32) (m : xM) : Option (xM) := (fB_maskIn t1 m (-1 : Int32)).bind fun r6 => (fT_many (7 * t1 + 3) (xset m 39 1 r6)).bind fun r17 => fK_listen_l25 t1 xfu v2 (0 : Int32) (xset (xset m 39 1 r6) 39 0 r17)
set_option maxRecDepth 100000 in
set_option maxHeartbeats 4000000 in
theorem kK_listen_b89 (G : xG) (t1 : Nat) (ht1 : t1 < 4) (z : xM)  (k25 : Int32 → Int32 → xM → Option (xM)) (k46 : Int32 → Int32 → Int32 → xM → Option (xM)) (hk25 : ∀ (v2 : Int32) (v3 : Int32) (m : xM), xR G yyK_listen (emvc z) 25 [(0, .ref (xa G 82)), (1, .ref (xa G (77 + t1))), (2, .int v2), (3, .int v3)] [] (m, z) (k25 v2 v3 m)) (hk46 : ∀ (v2 : Int32) (v3 : Int32) (v4 : Int32) (m : xM), xR G yyK_listen (emvc z) 46 [(0, .ref (xa G 82)), (1, .ref (xa G (77 + t1))), (2, .int v2), (3, .int v3), (4, .int v4)] [] (m, z) (k46 v2 v3 v4 m)) (v2 : Int32) (v3 : Int32) (v4 : Int32) (m : xM) : xR G yyK_listen (emvc z) 89 [(0, .ref (xa G 82)), (1, .ref (xa G (77 + t1))), (2, .int v2), (3, .int v3), (4, .int v4)] [] (m, z) (fK_listen_b89 t1 k25 k46 v2 v3 v4 m) := by
  unfold fK_listen_b89
  refine xR_iinc 89 4 (v4 + 1) ([(4, .int (v4 + 1)), (0, .ref (xa G 82)), (1, .ref (xa G (77 + t1))), (2, .int v2), (3, .int v3)]) dK_listen_89 rfl rfl (by decide) rfl ?_
  refine xR_goto 92 46 dK_listen_92 (by decide) ?_
  exact xR_sub [1, 2, 3, 4, 0] rfl (hk46 v2 v3 (v4 + 1) m)
set_option maxRecDepth 100000 in
set_option maxHeartbeats 4000000 in
theorem kK_listen_l46 (G : xG) (t1 : Nat) (ht1 : t1 < 4) (z : xM)  (k25 : Int32 → Int32 → xM → Option (xM)) (hk25 : ∀ (v2 : Int32) (v3 : Int32) (m : xM), xR G yyK_listen (emvc z) 25 [(0, .ref (xa G 82)), (1, .ref (xa G (77 + t1))), (2, .int v2), (3, .int v3)] [] (m, z) (k25 v2 v3 m)) : ∀ (n : Nat) (v2 : Int32) (v3 : Int32) (v4 : Int32) (m : xM), xR G yyK_listen (emvc z) 46 [(0, .ref (xa G 82)), (1, .ref (xa G (77 + t1))), (2, .int v2), (3, .int v3), (4, .int v4)] [] (m, z) (fK_listen_l46 t1 k25 n v2 v3 v4 m) := by
  intro n
  induction n with
  | zero =>
    intro v2 v3 v4 m
    rw [fK_listen_l46]
    exact xR_none
  | succ n ih =>
    intro v2 v3 v4 m
    rw [fK_listen_l46]
    refine xR_il 46 4 dK_listen_46 rfl ?_
    refine xR_aln 48 0 dK_listen_48 rfl rfl ?_
    refine xR_getf 49 xcf1 4 82 (by decide) (by decide) rfl (v := .int (m.1 39 1)) rfl fl_RX1_38 dK_listen_49 ?_
    refine xR_icgt 52 95 dK_listen_52 (by decide) ?_ ?_
    · refine xR_iinc 95 3 (v3 + 1) ([(3, .int (v3 + 1)), (0, .ref (xa G 82)), (1, .ref (xa G (77 + t1))), (2, .int v2), (4, .int v4)]) dK_listen_95 rfl rfl (by decide) rfl ?_
      refine xR_goto 98 25 dK_listen_98 (by decide) ?_
      exact xR_sub [1, 2, 3, 0] rfl (hk25 v2 (v3 + 1) m)
    · refine xR_il 55 4 dK_listen_55 rfl ?_
      refine xR_aln 57 0 dK_listen_57 rfl rfl ?_
      refine xR_getf 58 xcf1 4 82 (by decide) (by decide) rfl (v := .int (m.1 39 1)) rfl fl_RX1_38 dK_listen_58 ?_
      refine xR_callSNi (host := RX8) 61 cs_H_isPartOf (by decide +kernel) ⟨Nat.le_of_ble_eq_true rfl, Nat.le_of_ble_eq_true rfl⟩ [.int v4, .int (m.1 39 1)] rfl rfl (Nat.le_of_ble_eq_true rfl) dK_listen_61 (kH_isPartOf G (m, z) v4 (m.1 39 1)) (fun r61 => ?_)
      refine xR_ifeq 64 89 dK_listen_64 (by decide) ?_ ?_
      · exact kK_listen_b89 G t1 ht1 z k25 (fK_listen_l46 t1 k25 n) hk25 ih v2 v3 v4 m
      · refine xR_aln 67 0 dK_listen_67 rfl rfl ?_
        refine xR_getf 68 xcf1 0 82 (by decide) (by decide) rfl (v := .ref (xa G 67)) rfl fl_RX1_16 dK_listen_68 ?_
        refine xR_iln 71 3 dK_listen_71 rfl rfl ?_
        refine xR_il 72 4 dK_listen_72 rfl ?_
        refine xR_aln 74 1 dK_listen_74 rfl rfl ?_
        refine xR_aln 75 1 dK_listen_75 rfl rfl ?_
        refine xR_getf 76 xcf5 0 (77 + t1) (by decide) (xk_W ht1) (xC_twn ht1) (v := .ref (xa G (72 + t1))) rfl fl_RX1_26 dK_listen_76 ?_
        refine xR_iln 79 3 dK_listen_79 rfl rfl ?_
        refine xR_iln 80 2 dK_listen_80 rfl rfl ?_
        refine xR_il 81 4 dK_listen_81 rfl ?_
        refine xR_callVi 83 cv_W_playOn ml_RX1_59 ⟨Nat.le_of_ble_eq_true rfl, Nat.le_of_ble_eq_true rfl⟩ xcf5 rfl (77 + t1) (xk_W ht1) (xC_twn ht1) [.ref (xa G (72 + t1)), .int v3, .int v2, .int v4] rfl rfl (Nat.le_of_ble_eq_true rfl) dK_listen_83 (kW_playOn G t1 t1 ht1 (Nat.lt_of_lt_of_le ht1 (by decide)) z m v3 v2 v4) (fun r83 => ?_)
        refine xR_callVvc 86 cv_T_put ml_RX1_51 ⟨Nat.le_of_ble_eq_true rfl, Nat.le_of_ble_eq_true rfl⟩ xcf3 rfl 67 (by decide) (xC_tab (t := 31) (by decide)) [.int v3, .int v4, .int r83] rfl rfl (Nat.le_of_ble_eq_true rfl) dK_listen_86 (kT_put G 31 (by decide) z m v3 v4 r83) (fun r86 => ?_)
        exact kK_listen_b89 G t1 ht1 z k25 (fK_listen_l46 t1 k25 n) hk25 ih v2 v3 v4 r86
set_option maxRecDepth 100000 in
set_option maxHeartbeats 4000000 in
theorem kK_listen_l25 (G : xG) (t1 : Nat) (ht1 : t1 < 4) (z : xM)    : ∀ (n : Nat) (v2 : Int32) (v3 : Int32) (m : xM), xR G yyK_listen (emvc z) 25 [(0, .ref (xa G 82)), (1, .ref (xa G (77 + t1))), (2, .int v2), (3, .int v3)] [] (m, z) (fK_listen_l25 t1 n v2 v3 m) := by
  intro n
  induction n with
  | zero =>
    intro v2 v3 m
    rw [fK_listen_l25]
    exact xR_none
  | succ n ih =>
    intro v2 v3 m
    rw [fK_listen_l25]
    refine xR_iln 25 3 dK_listen_25 rfl rfl ?_
    refine xR_aln 26 0 dK_listen_26 rfl rfl ?_
    refine xR_getf 27 xcf1 3 82 (by decide) (by decide) rfl (v := .int (m.1 39 0)) rfl fl_RX1_49 dK_listen_27 ?_
    refine xR_icge 30 101 dK_listen_30 (by decide) ?_ ?_
    · exact xR_vret 101 rfl rfl dK_listen_101
    · refine xR_aln 33 0 dK_listen_33 rfl rfl ?_
      refine xR_getf 34 xcf1 2 82 (by decide) (by decide) rfl (v := .ref (xa G 69)) rfl fl_RX1_23 dK_listen_34 ?_
      refine xR_iln 37 3 dK_listen_37 rfl rfl ?_
      refine xR_ic 38 (0 : Int32) dK_listen_38 (by decide) ?_
      refine xR_ic 39 (0 : Int32) dK_listen_39 (by decide) ?_
      refine xR_callVvc 40 cv_T_put ml_RX1_51 ⟨Nat.le_of_ble_eq_true rfl, Nat.le_of_ble_eq_true rfl⟩ xcf3 rfl 69 (by decide) (xC_tab (t := 33) (by decide)) [.int v3, .int (0 : Int32), .int (0 : Int32)] rfl rfl (Nat.le_of_ble_eq_true rfl) dK_listen_40 (kT_put G 33 (by decide) z m v3 (0 : Int32) (0 : Int32)) (fun r40 => ?_)
      refine xR_ic 43 (0 : Int32) dK_listen_43 (by decide) ?_
      refine xR_is 44 ([(4, .int (0 : Int32)), (0, .ref (xa G 82)), (1, .ref (xa G (77 + t1))), (2, .int v2), (3, .int v3)]) dK_listen_44 (by decide) rfl ?_
      exact xR_sub [1, 2, 3, 4, 0] rfl (kK_listen_l46 G t1 ht1 z (fK_listen_l25 t1 n) ih xfu v2 v3 (0 : Int32) r40)
set_option maxRecDepth 100000 in
set_option maxHeartbeats 4000000 in
theorem kK_listen (G : xG) (t1 : Nat) (ht1 : t1 < 4) (z : xM) (m : xM) (v2 : Int32) : ∀ a, fK_listen t1 v2 m = some a → xCt G yyK_listen [.ref (xa G 82), .ref (xa G (77 + t1)), .int v2] (m, z) (none) (a, z) := by
  refine xR_ct (em := (emvc z)) rfl (Nat.le_of_ble_eq_true rfl) ?_
  show xR G yyK_listen _ 0 [(0, .ref (xa G 82)), (1, .ref (xa G (77 + t1))), (2, .int v2)] [] _ _
  unfold fK_listen
  refine xR_aln 0 0 dK_listen_0 rfl rfl ?_
  refine xR_aln 1 1 dK_listen_1 rfl rfl ?_
  refine xR_getf 2 xcf5 0 (77 + t1) (by decide) (xk_W ht1) (xC_twn ht1) (v := .ref (xa G (72 + t1))) rfl fl_RX1_26 dK_listen_2 ?_
  refine xR_ic 5 (-1 : Int32) dK_listen_5 (by decide) ?_
  refine xR_callVi 6 cv_B_maskIn ml_RX1_32 ⟨Nat.le_of_ble_eq_true rfl, Nat.le_of_ble_eq_true rfl⟩ xcf0 rfl (72 + t1) (xk_B (Nat.lt_of_lt_of_le ht1 (by decide))) (xC_brd (Nat.lt_of_lt_of_le ht1 (by decide))) [.int (-1 : Int32)] rfl rfl (Nat.le_of_ble_eq_true rfl) dK_listen_6 (kB_maskIn G t1 (Nat.lt_of_lt_of_le ht1 (by decide)) z m (-1 : Int32)) (fun r6 => ?_)
  refine xR_putf 9 xcf1 4 82 (by decide) (by decide) rfl rfl rfl rfl (Nat.le_of_ble_eq_true rfl) ((xset m 39 1 r6), z) (xW_blk (a := 39) (i := 1) (by decide) (by decide) rfl) fl_RX1_38 dK_listen_9 ?_
  refine xR_aln 12 0 dK_listen_12 rfl rfl ?_
  refine xR_aln 13 1 dK_listen_13 rfl rfl ?_
  refine xR_getf 14 xcf5 3 (77 + t1) (by decide) (xk_W ht1) (xC_twn ht1) (v := .ref (xa G (36 + (7 * t1 + 3)))) rfl fl_RX1_42 dK_listen_14 ?_
  refine xR_callVi 17 cv_T_many ml_RX1_45 ⟨Nat.le_of_ble_eq_true rfl, Nat.le_of_ble_eq_true rfl⟩ xcf3 rfl (36 + (7 * t1 + 3)) (xk_T (xtw_lt ht1 (by decide))) (xC_tab (xtw_lt ht1 (by decide))) [] rfl rfl (Nat.le_of_ble_eq_true rfl) dK_listen_17 (kT_many G (7 * t1 + 3) (xtw_lt ht1 (by decide)) z (xset m 39 1 r6)) (fun r17 => ?_)
  refine xR_putf 20 xcf1 3 82 (by decide) (by decide) rfl rfl rfl rfl (Nat.le_of_ble_eq_true rfl) ((xset (xset m 39 1 r6) 39 0 r17), z) (xW_blk (a := 39) (i := 0) (by decide) (by decide) rfl) fl_RX1_49 dK_listen_20 ?_
  refine xR_ic 23 (0 : Int32) dK_listen_23 (by decide) ?_
  refine xR_isn 24 ([(3, .int (0 : Int32)), (0, .ref (xa G 82)), (1, .ref (xa G (77 + t1))), (2, .int v2)]) dK_listen_24 rfl (by decide) rfl ?_
  exact xR_sub [1, 2, 3, 0] rfl (kK_listen_l25 G t1 ht1 z xfu v2 (0 : Int32) (xset (xset m 39 1 r6) 39 0 r17))
theorem dK_mostWithShare_0 : decode (xb yyK_mostWithShare) 0 = .ok (.iconst (-1), 1) := by decide +kernel
theorem dK_mostWithShare_1 : decode (xb yyK_mostWithShare) 1 = .ok (.istore_n 3, 1) := by decide +kernel
theorem dK_mostWithShare_2 : decode (xb yyK_mostWithShare) 2 = .ok (.iconst 0, 1) := by decide +kernel
theorem dK_mostWithShare_3 : decode (xb yyK_mostWithShare) 3 = .ok (.istore 4, 2) := by decide +kernel
theorem dK_mostWithShare_5 : decode (xb yyK_mostWithShare) 5 = .ok (.iload 4, 2) := by decide +kernel
theorem dK_mostWithShare_7 : decode (xb yyK_mostWithShare) 7 = .ok (.iload_n 2, 1) := by decide +kernel
theorem dK_mostWithShare_8 : decode (xb yyK_mostWithShare) 8 = .ok (.if_icmp .gt 62, 3) := by decide +kernel
theorem dK_mostWithShare_11 : decode (xb yyK_mostWithShare) 11 = .ok (.iload 4, 2) := by decide +kernel
theorem dK_mostWithShare_13 : decode (xb yyK_mostWithShare) 13 = .ok (.iload_n 2, 1) := by decide +kernel
theorem dK_mostWithShare_14 : decode (xb yyK_mostWithShare) 14 = .ok (.invokestatic 55, 3) := by decide +kernel
theorem dK_mostWithShare_17 : decode (xb yyK_mostWithShare) 17 = .ok (.ifCond .eq 47, 3) := by decide +kernel
theorem dK_mostWithShare_20 : decode (xb yyK_mostWithShare) 20 = .ok (.aload_n 0, 1) := by decide +kernel
theorem dK_mostWithShare_21 : decode (xb yyK_mostWithShare) 21 = .ok (.getfield 20, 3) := by decide +kernel
theorem dK_mostWithShare_24 : decode (xb yyK_mostWithShare) 24 = .ok (.iload_n 2, 1) := by decide +kernel
theorem dK_mostWithShare_25 : decode (xb yyK_mostWithShare) 25 = .ok (.iload 4, 2) := by decide +kernel
theorem dK_mostWithShare_27 : decode (xb yyK_mostWithShare) 27 = .ok (.isub, 1) := by decide +kernel
theorem dK_mostWithShare_28 : decode (xb yyK_mostWithShare) 28 = .ok (.iconst 0, 1) := by decide +kernel
theorem dK_mostWithShare_29 : decode (xb yyK_mostWithShare) 29 = .ok (.invokevirtual 68, 3) := by decide +kernel
theorem dK_mostWithShare_32 : decode (xb yyK_mostWithShare) 32 = .ok (.aload_n 0, 1) := by decide +kernel
theorem dK_mostWithShare_33 : decode (xb yyK_mostWithShare) 33 = .ok (.getfield 16, 3) := by decide +kernel
theorem dK_mostWithShare_36 : decode (xb yyK_mostWithShare) 36 = .ok (.iload_n 1, 1) := by decide +kernel
theorem dK_mostWithShare_37 : decode (xb yyK_mostWithShare) 37 = .ok (.aload_n 0, 1) := by decide +kernel
theorem dK_mostWithShare_38 : decode (xb yyK_mostWithShare) 38 = .ok (.getfield 23, 3) := by decide +kernel
theorem dK_mostWithShare_41 : decode (xb yyK_mostWithShare) 41 = .ok (.iload_n 1, 1) := by decide +kernel
theorem dK_mostWithShare_42 : decode (xb yyK_mostWithShare) 42 = .ok (.iconst 0, 1) := by decide +kernel
theorem dK_mostWithShare_43 : decode (xb yyK_mostWithShare) 43 = .ok (.invokevirtual 68, 3) := by decide +kernel
theorem dK_mostWithShare_46 : decode (xb yyK_mostWithShare) 46 = .ok (.iload 4, 2) := by decide +kernel
theorem dK_mostWithShare_48 : decode (xb yyK_mostWithShare) 48 = .ok (.ior, 1) := by decide +kernel
theorem dK_mostWithShare_49 : decode (xb yyK_mostWithShare) 49 = .ok (.invokevirtual 68, 3) := by decide +kernel
theorem dK_mostWithShare_52 : decode (xb yyK_mostWithShare) 52 = .ok (.invokestatic 76, 3) := by decide +kernel
theorem dK_mostWithShare_55 : decode (xb yyK_mostWithShare) 55 = .ok (.istore 5, 2) := by decide +kernel
theorem dK_mostWithShare_57 : decode (xb yyK_mostWithShare) 57 = .ok (.iload_n 3, 1) := by decide +kernel
theorem dK_mostWithShare_58 : decode (xb yyK_mostWithShare) 58 = .ok (.iload 5, 2) := by decide +kernel
theorem dK_mostWithShare_60 : decode (xb yyK_mostWithShare) 60 = .ok (.invokestatic 71, 3) := by decide +kernel
theorem dK_mostWithShare_63 : decode (xb yyK_mostWithShare) 63 = .ok (.istore_n 3, 1) := by decide +kernel
theorem dK_mostWithShare_64 : decode (xb yyK_mostWithShare) 64 = .ok (.iinc 4 1, 3) := by decide +kernel
theorem dK_mostWithShare_67 : decode (xb yyK_mostWithShare) 67 = .ok (.goto (-62), 3) := by decide +kernel
theorem dK_mostWithShare_70 : decode (xb yyK_mostWithShare) 70 = .ok (.iload_n 3, 1) := by decide +kernel
theorem dK_mostWithShare_71 : decode (xb yyK_mostWithShare) 71 = .ok (.ireturn, 1) := by decide +kernel
def fK_mostWithShare_b64  (m : xM) (k5 : Int32 → Int32 → Int32 → Int32 → Option (Int32)) (v1 : Int32) (v2 : Int32) (v3 : Int32) (v4 : Int32) : Option (Int32) := k5 v1 v2 v3 (v4 + 1)
def fK_mostWithShare_l5  (m : xM) : Nat → Int32 → Int32 → Int32 → Int32 → Option (Int32)
  | 0, _, _, _, _ => none
  | n + 1, v1, v2, v3, v4 => (if v2 < v4 then some v3 else (fH_isPartOf v4 v2).bind fun r14 => (if r14 = 0 then fK_mostWithShare_b64 m (fK_mostWithShare_l5 m n) v1 v2 v3 v4 else (fT_get 32 m (v2 - v4) (0 : Int32)).bind fun r29 => (fT_get 33 m v1 (0 : Int32)).bind fun r43 => (fT_get 31 m v1 (r43 ||| v4)).bind fun r49 => fK_mostWithShare_b64 m (fK_mostWithShare_l5 m n) v1 v2 (xmax v3 (xmin r29 r49)) v4))
def fK_mostWithShare  (m : xM) (v1 : Int32) (v2 : Int32) : Option (Int32) := fK_mostWithShare_l5 m xfu v1 v2 (-1 : Int32) (0 : Int32)
set_option maxRecDepth 100000 in
set_option maxHeartbeats 4000000 in
theorem kK_mostWithShare_b64 (G : xG)   (z : xM) (m : xM) (k5 : Int32 → Int32 → Int32 → Int32 → Option (Int32)) (hk5 : ∀ (v1 : Int32) (v2 : Int32) (v3 : Int32) (v4 : Int32), xR G yyK_mostWithShare (emi (m, z)) 5 [(0, .ref (xa G 82)), (1, .int v1), (2, .int v2), (3, .int v3), (4, .int v4)] [] (m, z) (k5 v1 v2 v3 v4)) (v1 : Int32) (v2 : Int32) (v3 : Int32) (v4 : Int32) : xR G yyK_mostWithShare (emi (m, z)) 64 [(0, .ref (xa G 82)), (1, .int v1), (2, .int v2), (3, .int v3), (4, .int v4)] [] (m, z) (fK_mostWithShare_b64 m k5 v1 v2 v3 v4) := by
  unfold fK_mostWithShare_b64
  refine xR_iinc 64 4 (v4 + 1) ([(4, .int (v4 + 1)), (0, .ref (xa G 82)), (1, .int v1), (2, .int v2), (3, .int v3)]) dK_mostWithShare_64 rfl rfl (by decide) rfl ?_
  refine xR_goto 67 5 dK_mostWithShare_67 (by decide) ?_
  exact xR_sub [1, 2, 3, 4, 0] rfl (hk5 v1 v2 v3 (v4 + 1))
set_option maxRecDepth 100000 in
set_option maxHeartbeats 4000000 in
theorem kK_mostWithShare_l5 (G : xG)   (z : xM) (m : xM)   : ∀ (n : Nat) (v1 : Int32) (v2 : Int32) (v3 : Int32) (v4 : Int32), xR G yyK_mostWithShare (emi (m, z)) 5 [(0, .ref (xa G 82)), (1, .int v1), (2, .int v2), (3, .int v3), (4, .int v4)] [] (m, z) (fK_mostWithShare_l5 m n v1 v2 v3 v4) := by
  intro n
  induction n with
  | zero =>
    intro v1 v2 v3 v4
    rw [fK_mostWithShare_l5]
    exact xR_none
  | succ n ih =>
    intro v1 v2 v3 v4
    rw [fK_mostWithShare_l5]
    refine xR_il 5 4 dK_mostWithShare_5 rfl ?_
    refine xR_iln 7 2 dK_mostWithShare_7 rfl rfl ?_
    refine xR_icgt 8 70 dK_mostWithShare_8 (by decide) ?_ ?_
    · refine xR_iln 70 3 dK_mostWithShare_70 rfl rfl ?_
      exact xR_iret 71 rfl rfl dK_mostWithShare_71
    · refine xR_il 11 4 dK_mostWithShare_11 rfl ?_
      refine xR_iln 13 2 dK_mostWithShare_13 rfl rfl ?_
      refine xR_callSNi (host := RX8) 14 cs_H_isPartOf (by decide +kernel) ⟨Nat.le_of_ble_eq_true rfl, Nat.le_of_ble_eq_true rfl⟩ [.int v4, .int v2] rfl rfl (Nat.le_of_ble_eq_true rfl) dK_mostWithShare_14 (kH_isPartOf G (m, z) v4 v2) (fun r14 => ?_)
      refine xR_ifeq 17 64 dK_mostWithShare_17 (by decide) ?_ ?_
      · exact kK_mostWithShare_b64 G z m (fK_mostWithShare_l5 m n) ih v1 v2 v3 v4
      · refine xR_aln 20 0 dK_mostWithShare_20 rfl rfl ?_
        refine xR_getf 21 xcf1 1 82 (by decide) (by decide) rfl (v := .ref (xa G 68)) rfl fl_RX1_20 dK_mostWithShare_21 ?_
        refine xR_iln 24 2 dK_mostWithShare_24 rfl rfl ?_
        refine xR_il 25 4 dK_mostWithShare_25 rfl ?_
        refine xR_isub 27 dK_mostWithShare_27 ?_
        refine xR_ic 28 (0 : Int32) dK_mostWithShare_28 (by decide) ?_
        refine xR_callVi 29 cv_T_get ml_RX1_68 ⟨Nat.le_of_ble_eq_true rfl, Nat.le_of_ble_eq_true rfl⟩ xcf3 rfl 68 (by decide) (xC_tab (t := 32) (by decide)) [.int (v2 - v4), .int (0 : Int32)] rfl rfl (Nat.le_of_ble_eq_true rfl) dK_mostWithShare_29 (kT_get G 32 (by decide) z m (v2 - v4) (0 : Int32)) (fun r29 => ?_)
        refine xR_aln 32 0 dK_mostWithShare_32 rfl rfl ?_
        refine xR_getf 33 xcf1 0 82 (by decide) (by decide) rfl (v := .ref (xa G 67)) rfl fl_RX1_16 dK_mostWithShare_33 ?_
        refine xR_iln 36 1 dK_mostWithShare_36 rfl rfl ?_
        refine xR_aln 37 0 dK_mostWithShare_37 rfl rfl ?_
        refine xR_getf 38 xcf1 2 82 (by decide) (by decide) rfl (v := .ref (xa G 69)) rfl fl_RX1_23 dK_mostWithShare_38 ?_
        refine xR_iln 41 1 dK_mostWithShare_41 rfl rfl ?_
        refine xR_ic 42 (0 : Int32) dK_mostWithShare_42 (by decide) ?_
        refine xR_callVi 43 cv_T_get ml_RX1_68 ⟨Nat.le_of_ble_eq_true rfl, Nat.le_of_ble_eq_true rfl⟩ xcf3 rfl 69 (by decide) (xC_tab (t := 33) (by decide)) [.int v1, .int (0 : Int32)] rfl rfl (Nat.le_of_ble_eq_true rfl) dK_mostWithShare_43 (kT_get G 33 (by decide) z m v1 (0 : Int32)) (fun r43 => ?_)
        refine xR_il 46 4 dK_mostWithShare_46 rfl ?_
        refine xR_ior 48 dK_mostWithShare_48 ?_
        refine xR_callVi 49 cv_T_get ml_RX1_68 ⟨Nat.le_of_ble_eq_true rfl, Nat.le_of_ble_eq_true rfl⟩ xcf3 rfl 67 (by decide) (xC_tab (t := 31) (by decide)) [.int v1, .int (r43 ||| v4)] rfl rfl (Nat.le_of_ble_eq_true rfl) dK_mostWithShare_49 (kT_get G 31 (by decide) z m v1 (r43 ||| v4)) (fun r49 => ?_)
        refine xR_mmin 52 ml_RX1_76 ⟨Nat.le_of_ble_eq_true rfl, Nat.le_of_ble_eq_true rfl⟩ dK_mostWithShare_52 ?_
        refine xR_is 55 ([(5, .int (xmin r29 r49)), (0, .ref (xa G 82)), (1, .int v1), (2, .int v2), (3, .int v3), (4, .int v4)]) dK_mostWithShare_55 (by decide) rfl ?_
        refine xR_iln 57 4 dK_mostWithShare_57 rfl rfl ?_
        refine xR_il 58 0 dK_mostWithShare_58 rfl ?_
        refine xR_mmax 60 ml_RX1_71 ⟨Nat.le_of_ble_eq_true rfl, Nat.le_of_ble_eq_true rfl⟩ dK_mostWithShare_60 ?_
        refine xR_isn 63 ([(3, .int (xmax v3 (xmin r29 r49))), (5, .int (xmin r29 r49)), (0, .ref (xa G 82)), (1, .int v1), (2, .int v2), (4, .int v4)]) dK_mostWithShare_63 rfl (by decide) rfl ?_
        exact xR_sub [2, 3, 4, 0, 5] rfl (kK_mostWithShare_b64 G z m (fK_mostWithShare_l5 m n) ih v1 v2 (xmax v3 (xmin r29 r49)) v4)
set_option maxRecDepth 100000 in
set_option maxHeartbeats 4000000 in
theorem kK_mostWithShare (G : xG)   (z : xM) (m : xM) (v1 : Int32) (v2 : Int32) : ∀ a, fK_mostWithShare m v1 v2 = some a → xCt G yyK_mostWithShare [.ref (xa G 82), .int v1, .int v2] (m, z) (some (.int a)) (m, z) := by
  refine xR_ct (em := (emi (m, z))) rfl (Nat.le_of_ble_eq_true rfl) ?_
  show xR G yyK_mostWithShare _ 0 [(0, .ref (xa G 82)), (1, .int v1), (2, .int v2)] [] _ _
  unfold fK_mostWithShare
  refine xR_ic 0 (-1 : Int32) dK_mostWithShare_0 (by decide) ?_
  refine xR_isn 1 ([(3, .int (-1 : Int32)), (0, .ref (xa G 82)), (1, .int v1), (2, .int v2)]) dK_mostWithShare_1 rfl (by decide) rfl ?_
  refine xR_ic 2 (0 : Int32) dK_mostWithShare_2 (by decide) ?_
  refine xR_is 3 ([(4, .int (0 : Int32)), (3, .int (-1 : Int32)), (0, .ref (xa G 82)), (1, .int v1), (2, .int v2)]) dK_mostWithShare_3 (by decide) rfl ?_
  exact xR_sub [2, 3, 4, 1, 0] rfl (kK_mostWithShare_l5 G z m xfu v1 v2 (-1 : Int32) (0 : Int32))
theorem dK_mostOfLeast_0 : decode (xb yyK_mostOfLeast) 0 = .ok (.iconst 0, 1) := by decide +kernel
theorem dK_mostOfLeast_1 : decode (xb yyK_mostOfLeast) 1 = .ok (.istore_n 2, 1) := by decide +kernel
theorem dK_mostOfLeast_2 : decode (xb yyK_mostOfLeast) 2 = .ok (.iload_n 2, 1) := by decide +kernel
theorem dK_mostOfLeast_3 : decode (xb yyK_mostOfLeast) 3 = .ok (.bipush 64, 2) := by decide +kernel
theorem dK_mostOfLeast_5 : decode (xb yyK_mostOfLeast) 5 = .ok (.if_icmp .ge 28, 3) := by decide +kernel
theorem dK_mostOfLeast_8 : decode (xb yyK_mostOfLeast) 8 = .ok (.aload_n 0, 1) := by decide +kernel
theorem dK_mostOfLeast_9 : decode (xb yyK_mostOfLeast) 9 = .ok (.getfield 20, 3) := by decide +kernel
theorem dK_mostOfLeast_12 : decode (xb yyK_mostOfLeast) 12 = .ok (.iload_n 2, 1) := by decide +kernel
theorem dK_mostOfLeast_13 : decode (xb yyK_mostOfLeast) 13 = .ok (.iconst 0, 1) := by decide +kernel
theorem dK_mostOfLeast_14 : decode (xb yyK_mostOfLeast) 14 = .ok (.iload_n 2, 1) := by decide +kernel
theorem dK_mostOfLeast_15 : decode (xb yyK_mostOfLeast) 15 = .ok (.ifCond .ne 8, 3) := by decide +kernel
theorem dK_mostOfLeast_18 : decode (xb yyK_mostOfLeast) 18 = .ok (.ldc 63, 2) := by decide +kernel
theorem dK_mostOfLeast_20 : decode (xb yyK_mostOfLeast) 20 = .ok (.goto 4, 3) := by decide +kernel
theorem dK_mostOfLeast_23 : decode (xb yyK_mostOfLeast) 23 = .ok (.iconst (-1), 1) := by decide +kernel
theorem dK_mostOfLeast_24 : decode (xb yyK_mostOfLeast) 24 = .ok (.invokevirtual 51, 3) := by decide +kernel
theorem dK_mostOfLeast_27 : decode (xb yyK_mostOfLeast) 27 = .ok (.iinc 2 1, 3) := by decide +kernel
theorem dK_mostOfLeast_30 : decode (xb yyK_mostOfLeast) 30 = .ok (.goto (-28), 3) := by decide +kernel
theorem dK_mostOfLeast_33 : decode (xb yyK_mostOfLeast) 33 = .ok (.iconst 0, 1) := by decide +kernel
theorem dK_mostOfLeast_34 : decode (xb yyK_mostOfLeast) 34 = .ok (.istore_n 2, 1) := by decide +kernel
theorem dK_mostOfLeast_35 : decode (xb yyK_mostOfLeast) 35 = .ok (.iload_n 2, 1) := by decide +kernel
theorem dK_mostOfLeast_36 : decode (xb yyK_mostOfLeast) 36 = .ok (.aload_n 0, 1) := by decide +kernel
theorem dK_mostOfLeast_37 : decode (xb yyK_mostOfLeast) 37 = .ok (.getfield 49, 3) := by decide +kernel
theorem dK_mostOfLeast_40 : decode (xb yyK_mostOfLeast) 40 = .ok (.if_icmp .ge 44, 3) := by decide +kernel
theorem dK_mostOfLeast_43 : decode (xb yyK_mostOfLeast) 43 = .ok (.iload_n 1, 1) := by decide +kernel
theorem dK_mostOfLeast_44 : decode (xb yyK_mostOfLeast) 44 = .ok (.istore_n 3, 1) := by decide +kernel
theorem dK_mostOfLeast_45 : decode (xb yyK_mostOfLeast) 45 = .ok (.iload_n 3, 1) := by decide +kernel
theorem dK_mostOfLeast_46 : decode (xb yyK_mostOfLeast) 46 = .ok (.ifCond .lt 32, 3) := by decide +kernel
theorem dK_mostOfLeast_49 : decode (xb yyK_mostOfLeast) 49 = .ok (.iload_n 3, 1) := by decide +kernel
theorem dK_mostOfLeast_50 : decode (xb yyK_mostOfLeast) 50 = .ok (.iload_n 1, 1) := by decide +kernel
theorem dK_mostOfLeast_51 : decode (xb yyK_mostOfLeast) 51 = .ok (.invokestatic 55, 3) := by decide +kernel
theorem dK_mostOfLeast_54 : decode (xb yyK_mostOfLeast) 54 = .ok (.ifCond .eq 18, 3) := by decide +kernel
theorem dK_mostOfLeast_57 : decode (xb yyK_mostOfLeast) 57 = .ok (.aload_n 0, 1) := by decide +kernel
theorem dK_mostOfLeast_58 : decode (xb yyK_mostOfLeast) 58 = .ok (.getfield 20, 3) := by decide +kernel
theorem dK_mostOfLeast_61 : decode (xb yyK_mostOfLeast) 61 = .ok (.iload_n 3, 1) := by decide +kernel
theorem dK_mostOfLeast_62 : decode (xb yyK_mostOfLeast) 62 = .ok (.iconst 0, 1) := by decide +kernel
theorem dK_mostOfLeast_63 : decode (xb yyK_mostOfLeast) 63 = .ok (.aload_n 0, 1) := by decide +kernel
theorem dK_mostOfLeast_64 : decode (xb yyK_mostOfLeast) 64 = .ok (.iload_n 2, 1) := by decide +kernel
theorem dK_mostOfLeast_65 : decode (xb yyK_mostOfLeast) 65 = .ok (.iload_n 3, 1) := by decide +kernel
theorem dK_mostOfLeast_66 : decode (xb yyK_mostOfLeast) 66 = .ok (.invokevirtual 64, 3) := by decide +kernel
theorem dK_mostOfLeast_69 : decode (xb yyK_mostOfLeast) 69 = .ok (.invokevirtual 51, 3) := by decide +kernel
theorem dK_mostOfLeast_72 : decode (xb yyK_mostOfLeast) 72 = .ok (.iinc 3 (-1), 3) := by decide +kernel
theorem dK_mostOfLeast_75 : decode (xb yyK_mostOfLeast) 75 = .ok (.goto (-30), 3) := by decide +kernel
theorem dK_mostOfLeast_78 : decode (xb yyK_mostOfLeast) 78 = .ok (.iinc 2 1, 3) := by decide +kernel
theorem dK_mostOfLeast_81 : decode (xb yyK_mostOfLeast) 81 = .ok (.goto (-46), 3) := by decide +kernel
theorem dK_mostOfLeast_84 : decode (xb yyK_mostOfLeast) 84 = .ok (.iconst (-1), 1) := by decide +kernel
theorem dK_mostOfLeast_85 : decode (xb yyK_mostOfLeast) 85 = .ok (.istore_n 2, 1) := by decide +kernel
theorem dK_mostOfLeast_86 : decode (xb yyK_mostOfLeast) 86 = .ok (.iconst 0, 1) := by decide +kernel
theorem dK_mostOfLeast_87 : decode (xb yyK_mostOfLeast) 87 = .ok (.istore_n 3, 1) := by decide +kernel
theorem dK_mostOfLeast_88 : decode (xb yyK_mostOfLeast) 88 = .ok (.iload_n 3, 1) := by decide +kernel
theorem dK_mostOfLeast_89 : decode (xb yyK_mostOfLeast) 89 = .ok (.iload_n 1, 1) := by decide +kernel
theorem dK_mostOfLeast_90 : decode (xb yyK_mostOfLeast) 90 = .ok (.if_icmp .gt 23, 3) := by decide +kernel
theorem dK_mostOfLeast_93 : decode (xb yyK_mostOfLeast) 93 = .ok (.iload_n 2, 1) := by decide +kernel
theorem dK_mostOfLeast_94 : decode (xb yyK_mostOfLeast) 94 = .ok (.aload_n 0, 1) := by decide +kernel
theorem dK_mostOfLeast_95 : decode (xb yyK_mostOfLeast) 95 = .ok (.getfield 20, 3) := by decide +kernel
theorem dK_mostOfLeast_98 : decode (xb yyK_mostOfLeast) 98 = .ok (.iload_n 3, 1) := by decide +kernel
theorem dK_mostOfLeast_99 : decode (xb yyK_mostOfLeast) 99 = .ok (.iconst 0, 1) := by decide +kernel
theorem dK_mostOfLeast_100 : decode (xb yyK_mostOfLeast) 100 = .ok (.invokevirtual 68, 3) := by decide +kernel
theorem dK_mostOfLeast_103 : decode (xb yyK_mostOfLeast) 103 = .ok (.invokestatic 71, 3) := by decide +kernel
theorem dK_mostOfLeast_106 : decode (xb yyK_mostOfLeast) 106 = .ok (.istore_n 2, 1) := by decide +kernel
theorem dK_mostOfLeast_107 : decode (xb yyK_mostOfLeast) 107 = .ok (.iinc 3 1, 3) := by decide +kernel
theorem dK_mostOfLeast_110 : decode (xb yyK_mostOfLeast) 110 = .ok (.goto (-22), 3) := by decide +kernel
theorem dK_mostOfLeast_113 : decode (xb yyK_mostOfLeast) 113 = .ok (.iload_n 2, 1) := by decide +kernel
theorem dK_mostOfLeast_114 : decode (xb yyK_mostOfLeast) 114 = .ok (.ireturn, 1) := by decide +kernel
def fK_mostOfLeast_l88  : Nat → Int32 → Int32 → Int32 → xM → Option (Int32 × xM)
  | 0, _, _, _, _ => none
  | n + 1, v1, v2, v3, m => (if v1 < v3 then some (v2, m) else (fT_get 32 m v3 (0 : Int32)).bind fun r100 => fK_mostOfLeast_l88 n v1 (xmax v2 r100) (v3 + 1) m)
def fK_mostOfLeast_b72 (k35 : Int32 → Int32 → xM → Option (Int32 × xM)) (k45 : Int32 → Int32 → Int32 → xM → Option (Int32 × xM)) (v1 : Int32) (v2 : Int32) (v3 : Int32) (m : xM) : Option (Int32 × xM) := k45 v1 v2 (v3 + (-1)) m
def fK_mostOfLeast_l45 (k35 : Int32 → Int32 → xM → Option (Int32 × xM)) : Nat → Int32 → Int32 → Int32 → xM → Option (Int32 × xM)
  | 0, _, _, _, _ => none
  | n + 1, v1, v2, v3, m => (if v3 < 0 then k35 v1 (v2 + 1) m else (fH_isPartOf v3 v1).bind fun r51 => (if r51 = 0 then fK_mostOfLeast_b72 k35 (fK_mostOfLeast_l45 k35 n) v1 v2 v3 m else (fK_mostWithShare m v2 v3).bind fun r66 => (fT_put 32 v3 (0 : Int32) r66 m).bind fun r69 => fK_mostOfLeast_b72 k35 (fK_mostOfLeast_l45 k35 n) v1 v2 v3 r69))
def fK_mostOfLeast_l35  : Nat → Int32 → Int32 → xM → Option (Int32 × xM)
  | 0, _, _, _ => none
  | n + 1, v1, v2, m => (if (m.1 39 0) ≤ v2 then fK_mostOfLeast_l88 xfu v1 (-1 : Int32) (0 : Int32) m else fK_mostOfLeast_l45 (fK_mostOfLeast_l35 n) xfu v1 v2 v1 m)
def fK_mostOfLeast_b24 (k2 : Int32 → Int32 → xM → Option (Int32 × xM)) (v1 : Int32) (v2 : Int32) (s0 : Int32) (s1 : Int32) (s2 : Int32) (m : xM) : Option (Int32 × xM) := (fT_put 32 s2 s1 s0 m).bind fun r24 => k2 v1 (v2 + 1) r24
def fK_mostOfLeast_l2  : Nat → Int32 → Int32 → xM → Option (Int32 × xM)
  | 0, _, _, _ => none
  | n + 1, v1, v2, m => (if (64 : Int32) ≤ v2 then fK_mostOfLeast_l35 xfu v1 (0 : Int32) m else (if v2 = 0 then fK_mostOfLeast_b24 (fK_mostOfLeast_l2 n) v1 v2 (1000000 : Int32) (0 : Int32) v2 m else fK_mostOfLeast_b24 (fK_mostOfLeast_l2 n) v1 v2 (-1 : Int32) (0 : Int32) v2 m))
def fK_mostOfLeast  (v1 : Int32) (m : xM) : Option (Int32 × xM) := fK_mostOfLeast_l2 xfu v1 (0 : Int32) m
set_option maxRecDepth 100000 in
set_option maxHeartbeats 4000000 in
theorem kK_mostOfLeast_l88 (G : xG)   (z : xM)    : ∀ (n : Nat) (v1 : Int32) (v2 : Int32) (v3 : Int32) (m : xM), xR G yyK_mostOfLeast (emic z) 88 [(0, .ref (xa G 82)), (1, .int v1), (2, .int v2), (3, .int v3)] [] (m, z) (fK_mostOfLeast_l88  n v1 v2 v3 m) := by
  intro n
  induction n with
  | zero =>
    intro v1 v2 v3 m
    rw [fK_mostOfLeast_l88]
    exact xR_none
  | succ n ih =>
    intro v1 v2 v3 m
    rw [fK_mostOfLeast_l88]
    refine xR_iln 88 3 dK_mostOfLeast_88 rfl rfl ?_
    refine xR_iln 89 1 dK_mostOfLeast_89 rfl rfl ?_
    refine xR_icgt 90 113 dK_mostOfLeast_90 (by decide) ?_ ?_
    · refine xR_iln 113 2 dK_mostOfLeast_113 rfl rfl ?_
      exact xR_iret 114 rfl rfl dK_mostOfLeast_114
    · refine xR_iln 93 2 dK_mostOfLeast_93 rfl rfl ?_
      refine xR_aln 94 0 dK_mostOfLeast_94 rfl rfl ?_
      refine xR_getf 95 xcf1 1 82 (by decide) (by decide) rfl (v := .ref (xa G 68)) rfl fl_RX1_20 dK_mostOfLeast_95 ?_
      refine xR_iln 98 3 dK_mostOfLeast_98 rfl rfl ?_
      refine xR_ic 99 (0 : Int32) dK_mostOfLeast_99 (by decide) ?_
      refine xR_callVi 100 cv_T_get ml_RX1_68 ⟨Nat.le_of_ble_eq_true rfl, Nat.le_of_ble_eq_true rfl⟩ xcf3 rfl 68 (by decide) (xC_tab (t := 32) (by decide)) [.int v3, .int (0 : Int32)] rfl rfl (Nat.le_of_ble_eq_true rfl) dK_mostOfLeast_100 (kT_get G 32 (by decide) z m v3 (0 : Int32)) (fun r100 => ?_)
      refine xR_mmax 103 ml_RX1_71 ⟨Nat.le_of_ble_eq_true rfl, Nat.le_of_ble_eq_true rfl⟩ dK_mostOfLeast_103 ?_
      refine xR_isn 106 ([(2, .int (xmax v2 r100)), (0, .ref (xa G 82)), (1, .int v1), (3, .int v3)]) dK_mostOfLeast_106 rfl (by decide) rfl ?_
      refine xR_iinc 107 3 (v3 + 1) ([(3, .int (v3 + 1)), (2, .int (xmax v2 r100)), (0, .ref (xa G 82)), (1, .int v1)]) dK_mostOfLeast_107 rfl rfl (by decide) rfl ?_
      refine xR_goto 110 88 dK_mostOfLeast_110 (by decide) ?_
      exact xR_sub [2, 3, 1, 0] rfl (ih v1 (xmax v2 r100) (v3 + 1) m)
set_option maxRecDepth 100000 in
set_option maxHeartbeats 4000000 in
theorem kK_mostOfLeast_b72 (G : xG)   (z : xM)  (k35 : Int32 → Int32 → xM → Option (Int32 × xM)) (k45 : Int32 → Int32 → Int32 → xM → Option (Int32 × xM)) (hk35 : ∀ (v1 : Int32) (v2 : Int32) (m : xM), xR G yyK_mostOfLeast (emic z) 35 [(0, .ref (xa G 82)), (1, .int v1), (2, .int v2)] [] (m, z) (k35 v1 v2 m)) (hk45 : ∀ (v1 : Int32) (v2 : Int32) (v3 : Int32) (m : xM), xR G yyK_mostOfLeast (emic z) 45 [(0, .ref (xa G 82)), (1, .int v1), (2, .int v2), (3, .int v3)] [] (m, z) (k45 v1 v2 v3 m)) (v1 : Int32) (v2 : Int32) (v3 : Int32) (m : xM) : xR G yyK_mostOfLeast (emic z) 72 [(0, .ref (xa G 82)), (1, .int v1), (2, .int v2), (3, .int v3)] [] (m, z) (fK_mostOfLeast_b72 k35 k45 v1 v2 v3 m) := by
  unfold fK_mostOfLeast_b72
  refine xR_iinc 72 3 (v3 + (-1)) ([(3, .int (v3 + (-1))), (0, .ref (xa G 82)), (1, .int v1), (2, .int v2)]) dK_mostOfLeast_72 rfl rfl (by decide) rfl ?_
  refine xR_goto 75 45 dK_mostOfLeast_75 (by decide) ?_
  exact xR_sub [1, 2, 3, 0] rfl (hk45 v1 v2 (v3 + (-1)) m)
set_option maxRecDepth 100000 in
set_option maxHeartbeats 4000000 in
theorem kK_mostOfLeast_l45 (G : xG)   (z : xM)  (k35 : Int32 → Int32 → xM → Option (Int32 × xM)) (hk35 : ∀ (v1 : Int32) (v2 : Int32) (m : xM), xR G yyK_mostOfLeast (emic z) 35 [(0, .ref (xa G 82)), (1, .int v1), (2, .int v2)] [] (m, z) (k35 v1 v2 m)) : ∀ (n : Nat) (v1 : Int32) (v2 : Int32) (v3 : Int32) (m : xM), xR G yyK_mostOfLeast (emic z) 45 [(0, .ref (xa G 82)), (1, .int v1), (2, .int v2), (3, .int v3)] [] (m, z) (fK_mostOfLeast_l45 k35 n v1 v2 v3 m) := by
  intro n
  induction n with
  | zero =>
    intro v1 v2 v3 m
    rw [fK_mostOfLeast_l45]
    exact xR_none
  | succ n ih =>
    intro v1 v2 v3 m
    rw [fK_mostOfLeast_l45]
    refine xR_iln 45 3 dK_mostOfLeast_45 rfl rfl ?_
    refine xR_iflt 46 78 dK_mostOfLeast_46 (by decide) ?_ ?_
    · refine xR_iinc 78 2 (v2 + 1) ([(2, .int (v2 + 1)), (0, .ref (xa G 82)), (1, .int v1), (3, .int v3)]) dK_mostOfLeast_78 rfl rfl (by decide) rfl ?_
      refine xR_goto 81 35 dK_mostOfLeast_81 (by decide) ?_
      exact xR_sub [1, 2, 0] rfl (hk35 v1 (v2 + 1) m)
    · refine xR_iln 49 3 dK_mostOfLeast_49 rfl rfl ?_
      refine xR_iln 50 1 dK_mostOfLeast_50 rfl rfl ?_
      refine xR_callSNi (host := RX8) 51 cs_H_isPartOf (by decide +kernel) ⟨Nat.le_of_ble_eq_true rfl, Nat.le_of_ble_eq_true rfl⟩ [.int v3, .int v1] rfl rfl (Nat.le_of_ble_eq_true rfl) dK_mostOfLeast_51 (kH_isPartOf G (m, z) v3 v1) (fun r51 => ?_)
      refine xR_ifeq 54 72 dK_mostOfLeast_54 (by decide) ?_ ?_
      · exact kK_mostOfLeast_b72 G z k35 (fK_mostOfLeast_l45 k35 n) hk35 ih v1 v2 v3 m
      · refine xR_aln 57 0 dK_mostOfLeast_57 rfl rfl ?_
        refine xR_getf 58 xcf1 1 82 (by decide) (by decide) rfl (v := .ref (xa G 68)) rfl fl_RX1_20 dK_mostOfLeast_58 ?_
        refine xR_iln 61 3 dK_mostOfLeast_61 rfl rfl ?_
        refine xR_ic 62 (0 : Int32) dK_mostOfLeast_62 (by decide) ?_
        refine xR_aln 63 0 dK_mostOfLeast_63 rfl rfl ?_
        refine xR_iln 64 2 dK_mostOfLeast_64 rfl rfl ?_
        refine xR_iln 65 3 dK_mostOfLeast_65 rfl rfl ?_
        refine xR_callVi 66 cv_K_mostWithShare ml_RX1_64 ⟨Nat.le_of_ble_eq_true rfl, Nat.le_of_ble_eq_true rfl⟩ xcf1 rfl 82 (by decide) rfl [.int v2, .int v3] rfl rfl (Nat.le_of_ble_eq_true rfl) dK_mostOfLeast_66 (kK_mostWithShare G z m v2 v3) (fun r66 => ?_)
        refine xR_callVvc 69 cv_T_put ml_RX1_51 ⟨Nat.le_of_ble_eq_true rfl, Nat.le_of_ble_eq_true rfl⟩ xcf3 rfl 68 (by decide) (xC_tab (t := 32) (by decide)) [.int v3, .int (0 : Int32), .int r66] rfl rfl (Nat.le_of_ble_eq_true rfl) dK_mostOfLeast_69 (kT_put G 32 (by decide) z m v3 (0 : Int32) r66) (fun r69 => ?_)
        exact kK_mostOfLeast_b72 G z k35 (fK_mostOfLeast_l45 k35 n) hk35 ih v1 v2 v3 r69
set_option maxRecDepth 100000 in
set_option maxHeartbeats 4000000 in
theorem kK_mostOfLeast_l35 (G : xG)   (z : xM)    : ∀ (n : Nat) (v1 : Int32) (v2 : Int32) (m : xM), xR G yyK_mostOfLeast (emic z) 35 [(0, .ref (xa G 82)), (1, .int v1), (2, .int v2)] [] (m, z) (fK_mostOfLeast_l35  n v1 v2 m) := by
  intro n
  induction n with
  | zero =>
    intro v1 v2 m
    rw [fK_mostOfLeast_l35]
    exact xR_none
  | succ n ih =>
    intro v1 v2 m
    rw [fK_mostOfLeast_l35]
    refine xR_iln 35 2 dK_mostOfLeast_35 rfl rfl ?_
    refine xR_aln 36 0 dK_mostOfLeast_36 rfl rfl ?_
    refine xR_getf 37 xcf1 3 82 (by decide) (by decide) rfl (v := .int (m.1 39 0)) rfl fl_RX1_49 dK_mostOfLeast_37 ?_
    refine xR_icge 40 84 dK_mostOfLeast_40 (by decide) ?_ ?_
    · refine xR_ic 84 (-1 : Int32) dK_mostOfLeast_84 (by decide) ?_
      refine xR_isn 85 ([(2, .int (-1 : Int32)), (0, .ref (xa G 82)), (1, .int v1)]) dK_mostOfLeast_85 rfl (by decide) rfl ?_
      refine xR_ic 86 (0 : Int32) dK_mostOfLeast_86 (by decide) ?_
      refine xR_isn 87 ([(3, .int (0 : Int32)), (2, .int (-1 : Int32)), (0, .ref (xa G 82)), (1, .int v1)]) dK_mostOfLeast_87 rfl (by decide) rfl ?_
      exact xR_sub [2, 3, 1, 0] rfl (kK_mostOfLeast_l88 G z xfu v1 (-1 : Int32) (0 : Int32) m)
    · refine xR_iln 43 1 dK_mostOfLeast_43 rfl rfl ?_
      refine xR_isn 44 ([(3, .int v1), (0, .ref (xa G 82)), (1, .int v1), (2, .int v2)]) dK_mostOfLeast_44 rfl (by decide) rfl ?_
      exact xR_sub [1, 2, 3, 0] rfl (kK_mostOfLeast_l45 G z (fK_mostOfLeast_l35 n) ih xfu v1 v2 v1 m)
set_option maxRecDepth 100000 in
set_option maxHeartbeats 4000000 in
theorem kK_mostOfLeast_b24 (G : xG)   (z : xM)  (k2 : Int32 → Int32 → xM → Option (Int32 × xM)) (hk2 : ∀ (v1 : Int32) (v2 : Int32) (m : xM), xR G yyK_mostOfLeast (emic z) 2 [(0, .ref (xa G 82)), (1, .int v1), (2, .int v2)] [] (m, z) (k2 v1 v2 m)) (v1 : Int32) (v2 : Int32) (s0 : Int32) (s1 : Int32) (s2 : Int32) (m : xM) : xR G yyK_mostOfLeast (emic z) 24 [(0, .ref (xa G 82)), (1, .int v1), (2, .int v2)] [.int s0, .int s1, .int s2, .ref (xa G 68)] (m, z) (fK_mostOfLeast_b24 k2 v1 v2 s0 s1 s2 m) := by
  unfold fK_mostOfLeast_b24
  refine xR_callVvc 24 cv_T_put ml_RX1_51 ⟨Nat.le_of_ble_eq_true rfl, Nat.le_of_ble_eq_true rfl⟩ xcf3 rfl 68 (by decide) (xC_tab (t := 32) (by decide)) [.int s2, .int s1, .int s0] rfl rfl (Nat.le_of_ble_eq_true rfl) dK_mostOfLeast_24 (kT_put G 32 (by decide) z m s2 s1 s0) (fun r24 => ?_)
  refine xR_iinc 27 2 (v2 + 1) ([(2, .int (v2 + 1)), (0, .ref (xa G 82)), (1, .int v1)]) dK_mostOfLeast_27 rfl rfl (by decide) rfl ?_
  refine xR_goto 30 2 dK_mostOfLeast_30 (by decide) ?_
  exact xR_sub [1, 2, 0] rfl (hk2 v1 (v2 + 1) r24)
set_option maxRecDepth 100000 in
set_option maxHeartbeats 4000000 in
theorem kK_mostOfLeast_l2 (G : xG)   (z : xM)    : ∀ (n : Nat) (v1 : Int32) (v2 : Int32) (m : xM), xR G yyK_mostOfLeast (emic z) 2 [(0, .ref (xa G 82)), (1, .int v1), (2, .int v2)] [] (m, z) (fK_mostOfLeast_l2  n v1 v2 m) := by
  intro n
  induction n with
  | zero =>
    intro v1 v2 m
    rw [fK_mostOfLeast_l2]
    exact xR_none
  | succ n ih =>
    intro v1 v2 m
    rw [fK_mostOfLeast_l2]
    refine xR_iln 2 2 dK_mostOfLeast_2 rfl rfl ?_
    refine xR_bp 3 (64 : Int32) dK_mostOfLeast_3 (by decide) ?_
    refine xR_icge 5 33 dK_mostOfLeast_5 (by decide) ?_ ?_
    · refine xR_ic 33 (0 : Int32) dK_mostOfLeast_33 (by decide) ?_
      refine xR_isn 34 ([(2, .int (0 : Int32)), (0, .ref (xa G 82)), (1, .int v1)]) dK_mostOfLeast_34 rfl (by decide) rfl ?_
      exact xR_sub [1, 2, 0] rfl (kK_mostOfLeast_l35 G z xfu v1 (0 : Int32) m)
    · refine xR_aln 8 0 dK_mostOfLeast_8 rfl rfl ?_
      refine xR_getf 9 xcf1 1 82 (by decide) (by decide) rfl (v := .ref (xa G 68)) rfl fl_RX1_20 dK_mostOfLeast_9 ?_
      refine xR_iln 12 2 dK_mostOfLeast_12 rfl rfl ?_
      refine xR_ic 13 (0 : Int32) dK_mostOfLeast_13 (by decide) ?_
      refine xR_iln 14 2 dK_mostOfLeast_14 rfl rfl ?_
      refine xR_ifne 15 23 dK_mostOfLeast_15 (by decide) ?_ ?_
      · refine xR_ic 23 (-1 : Int32) dK_mostOfLeast_23 (by decide) ?_
        exact kK_mostOfLeast_b24 G z (fK_mostOfLeast_l2 n) ih v1 v2 (-1 : Int32) (0 : Int32) v2 m
      · refine xR_ldc 18 ci_RX1_63 dK_mostOfLeast_18 ?_
        refine xR_goto 20 24 dK_mostOfLeast_20 (by decide) ?_
        exact kK_mostOfLeast_b24 G z (fK_mostOfLeast_l2 n) ih v1 v2 (1000000 : Int32) (0 : Int32) v2 m
set_option maxRecDepth 100000 in
set_option maxHeartbeats 4000000 in
theorem kK_mostOfLeast (G : xG)   (z : xM) (m : xM) (v1 : Int32) : ∀ a, fK_mostOfLeast  v1 m = some a → xCt G yyK_mostOfLeast [.ref (xa G 82), .int v1] (m, z) (some (.int a.1)) (a.2, z) := by
  refine xR_ct (em := (emic z)) rfl (Nat.le_of_ble_eq_true rfl) ?_
  show xR G yyK_mostOfLeast _ 0 [(0, .ref (xa G 82)), (1, .int v1)] [] _ _
  unfold fK_mostOfLeast
  refine xR_ic 0 (0 : Int32) dK_mostOfLeast_0 (by decide) ?_
  refine xR_isn 1 ([(2, .int (0 : Int32)), (0, .ref (xa G 82)), (1, .int v1)]) dK_mostOfLeast_1 rfl (by decide) rfl ?_
  exact xR_sub [1, 2, 0] rfl (kK_mostOfLeast_l2 G z xfu v1 (0 : Int32) m)
theorem dK_firstPlace_0 : decode (xb yyK_firstPlace) 0 = .ok (.aload_n 0, 1) := by decide +kernel
theorem dK_firstPlace_1 : decode (xb yyK_firstPlace) 1 = .ok (.iload_n 2, 1) := by decide +kernel
theorem dK_firstPlace_2 : decode (xb yyK_firstPlace) 2 = .ok (.invokevirtual 79, 3) := by decide +kernel
theorem dK_firstPlace_5 : decode (xb yyK_firstPlace) 5 = .ok (.iload_n 3, 1) := by decide +kernel
theorem dK_firstPlace_6 : decode (xb yyK_firstPlace) 6 = .ok (.if_icmp .ne 5, 3) := by decide +kernel
theorem dK_firstPlace_9 : decode (xb yyK_firstPlace) 9 = .ok (.iconst (-1), 1) := by decide +kernel
theorem dK_firstPlace_10 : decode (xb yyK_firstPlace) 10 = .ok (.ireturn, 1) := by decide +kernel
theorem dK_firstPlace_11 : decode (xb yyK_firstPlace) 11 = .ok (.iconst 0, 1) := by decide +kernel
theorem dK_firstPlace_12 : decode (xb yyK_firstPlace) 12 = .ok (.istore 4, 2) := by decide +kernel
theorem dK_firstPlace_14 : decode (xb yyK_firstPlace) 14 = .ok (.iload 4, 2) := by decide +kernel
theorem dK_firstPlace_16 : decode (xb yyK_firstPlace) 16 = .ok (.aload_n 0, 1) := by decide +kernel
theorem dK_firstPlace_17 : decode (xb yyK_firstPlace) 17 = .ok (.getfield 49, 3) := by decide +kernel
theorem dK_firstPlace_20 : decode (xb yyK_firstPlace) 20 = .ok (.if_icmp .ge 61, 3) := by decide +kernel
theorem dK_firstPlace_23 : decode (xb yyK_firstPlace) 23 = .ok (.aload_n 0, 1) := by decide +kernel
theorem dK_firstPlace_24 : decode (xb yyK_firstPlace) 24 = .ok (.getfield 23, 3) := by decide +kernel
theorem dK_firstPlace_27 : decode (xb yyK_firstPlace) 27 = .ok (.iload 4, 2) := by decide +kernel
theorem dK_firstPlace_29 : decode (xb yyK_firstPlace) 29 = .ok (.iconst 0, 1) := by decide +kernel
theorem dK_firstPlace_30 : decode (xb yyK_firstPlace) 30 = .ok (.invokevirtual 68, 3) := by decide +kernel
theorem dK_firstPlace_33 : decode (xb yyK_firstPlace) 33 = .ok (.istore 5, 2) := by decide +kernel
theorem dK_firstPlace_35 : decode (xb yyK_firstPlace) 35 = .ok (.aload_n 0, 1) := by decide +kernel
theorem dK_firstPlace_36 : decode (xb yyK_firstPlace) 36 = .ok (.getfield 23, 3) := by decide +kernel
theorem dK_firstPlace_39 : decode (xb yyK_firstPlace) 39 = .ok (.iload 4, 2) := by decide +kernel
theorem dK_firstPlace_41 : decode (xb yyK_firstPlace) 41 = .ok (.iconst 0, 1) := by decide +kernel
theorem dK_firstPlace_42 : decode (xb yyK_firstPlace) 42 = .ok (.iload 5, 2) := by decide +kernel
theorem dK_firstPlace_44 : decode (xb yyK_firstPlace) 44 = .ok (.iconst 1, 1) := by decide +kernel
theorem dK_firstPlace_45 : decode (xb yyK_firstPlace) 45 = .ok (.iload_n 1, 1) := by decide +kernel
theorem dK_firstPlace_46 : decode (xb yyK_firstPlace) 46 = .ok (.ishl, 1) := by decide +kernel
theorem dK_firstPlace_47 : decode (xb yyK_firstPlace) 47 = .ok (.ior, 1) := by decide +kernel
theorem dK_firstPlace_48 : decode (xb yyK_firstPlace) 48 = .ok (.invokevirtual 51, 3) := by decide +kernel
theorem dK_firstPlace_51 : decode (xb yyK_firstPlace) 51 = .ok (.aload_n 0, 1) := by decide +kernel
theorem dK_firstPlace_52 : decode (xb yyK_firstPlace) 52 = .ok (.iload_n 2, 1) := by decide +kernel
theorem dK_firstPlace_53 : decode (xb yyK_firstPlace) 53 = .ok (.invokevirtual 79, 3) := by decide +kernel
theorem dK_firstPlace_56 : decode (xb yyK_firstPlace) 56 = .ok (.iload_n 3, 1) := by decide +kernel
theorem dK_firstPlace_57 : decode (xb yyK_firstPlace) 57 = .ok (.if_icmp .ne 6, 3) := by decide +kernel
theorem dK_firstPlace_60 : decode (xb yyK_firstPlace) 60 = .ok (.iload 4, 2) := by decide +kernel
theorem dK_firstPlace_62 : decode (xb yyK_firstPlace) 62 = .ok (.ireturn, 1) := by decide +kernel
theorem dK_firstPlace_63 : decode (xb yyK_firstPlace) 63 = .ok (.aload_n 0, 1) := by decide +kernel
theorem dK_firstPlace_64 : decode (xb yyK_firstPlace) 64 = .ok (.getfield 23, 3) := by decide +kernel
theorem dK_firstPlace_67 : decode (xb yyK_firstPlace) 67 = .ok (.iload 4, 2) := by decide +kernel
theorem dK_firstPlace_69 : decode (xb yyK_firstPlace) 69 = .ok (.iconst 0, 1) := by decide +kernel
theorem dK_firstPlace_70 : decode (xb yyK_firstPlace) 70 = .ok (.iload 5, 2) := by decide +kernel
theorem dK_firstPlace_72 : decode (xb yyK_firstPlace) 72 = .ok (.invokevirtual 51, 3) := by decide +kernel
theorem dK_firstPlace_75 : decode (xb yyK_firstPlace) 75 = .ok (.iinc 4 1, 3) := by decide +kernel
theorem dK_firstPlace_78 : decode (xb yyK_firstPlace) 78 = .ok (.goto (-64), 3) := by decide +kernel
theorem dK_firstPlace_81 : decode (xb yyK_firstPlace) 81 = .ok (.iconst (-1), 1) := by decide +kernel
theorem dK_firstPlace_82 : decode (xb yyK_firstPlace) 82 = .ok (.ireturn, 1) := by decide +kernel
def fK_firstPlace_l14  : Nat → Int32 → Int32 → Int32 → Int32 → xM → Option (Int32 × xM)
  | 0, _, _, _, _, _ => none
  | n + 1, v1, v2, v3, v4, m => (if (m.1 39 0) ≤ v4 then some ((-1 : Int32), m) else (fT_get 33 m v4 (0 : Int32)).bind fun r30 => (fT_put 33 v4 (0 : Int32) (r30 ||| ((1 : Int32) <<< (v1 &&& 31))) m).bind fun r48 => (fK_mostOfLeast v2 r48).bind fun r53 => (if r53.1 = v3 then some (v4, r53.2) else (fT_put 33 v4 (0 : Int32) r30 r53.2).bind fun r72 => fK_firstPlace_l14 n v1 v2 v3 (v4 + 1) r72))
def fK_firstPlace  (v1 : Int32) (v2 : Int32) (v3 : Int32) (m : xM) : Option (Int32 × xM) := (fK_mostOfLeast v2 m).bind fun r2 => (if r2.1 = v3 then some ((-1 : Int32), r2.2) else fK_firstPlace_l14 xfu v1 v2 v3 (0 : Int32) r2.2)
set_option maxRecDepth 100000 in
set_option maxHeartbeats 4000000 in
theorem kK_firstPlace_l14 (G : xG)   (z : xM)    : ∀ (n : Nat) (v1 : Int32) (v2 : Int32) (v3 : Int32) (v4 : Int32) (m : xM), xR G yyK_firstPlace (emic z) 14 [(0, .ref (xa G 82)), (1, .int v1), (2, .int v2), (3, .int v3), (4, .int v4)] [] (m, z) (fK_firstPlace_l14  n v1 v2 v3 v4 m) := by
  intro n
  induction n with
  | zero =>
    intro v1 v2 v3 v4 m
    rw [fK_firstPlace_l14]
    exact xR_none
  | succ n ih =>
    intro v1 v2 v3 v4 m
    rw [fK_firstPlace_l14]
    refine xR_il 14 4 dK_firstPlace_14 rfl ?_
    refine xR_aln 16 0 dK_firstPlace_16 rfl rfl ?_
    refine xR_getf 17 xcf1 3 82 (by decide) (by decide) rfl (v := .int (m.1 39 0)) rfl fl_RX1_49 dK_firstPlace_17 ?_
    refine xR_icge 20 81 dK_firstPlace_20 (by decide) ?_ ?_
    · refine xR_ic 81 (-1 : Int32) dK_firstPlace_81 (by decide) ?_
      exact xR_iret 82 rfl rfl dK_firstPlace_82
    · refine xR_aln 23 0 dK_firstPlace_23 rfl rfl ?_
      refine xR_getf 24 xcf1 2 82 (by decide) (by decide) rfl (v := .ref (xa G 69)) rfl fl_RX1_23 dK_firstPlace_24 ?_
      refine xR_il 27 4 dK_firstPlace_27 rfl ?_
      refine xR_ic 29 (0 : Int32) dK_firstPlace_29 (by decide) ?_
      refine xR_callVi 30 cv_T_get ml_RX1_68 ⟨Nat.le_of_ble_eq_true rfl, Nat.le_of_ble_eq_true rfl⟩ xcf3 rfl 69 (by decide) (xC_tab (t := 33) (by decide)) [.int v4, .int (0 : Int32)] rfl rfl (Nat.le_of_ble_eq_true rfl) dK_firstPlace_30 (kT_get G 33 (by decide) z m v4 (0 : Int32)) (fun r30 => ?_)
      refine xR_is 33 ([(5, .int r30), (0, .ref (xa G 82)), (1, .int v1), (2, .int v2), (3, .int v3), (4, .int v4)]) dK_firstPlace_33 (by decide) rfl ?_
      refine xR_aln 35 1 dK_firstPlace_35 rfl rfl ?_
      refine xR_getf 36 xcf1 2 82 (by decide) (by decide) rfl (v := .ref (xa G 69)) rfl fl_RX1_23 dK_firstPlace_36 ?_
      refine xR_il 39 5 dK_firstPlace_39 rfl ?_
      refine xR_ic 41 (0 : Int32) dK_firstPlace_41 (by decide) ?_
      refine xR_il 42 0 dK_firstPlace_42 rfl ?_
      refine xR_ic 44 (1 : Int32) dK_firstPlace_44 (by decide) ?_
      refine xR_iln 45 2 dK_firstPlace_45 rfl rfl ?_
      refine xR_ishl 46 dK_firstPlace_46 ?_
      refine xR_ior 47 dK_firstPlace_47 ?_
      refine xR_callVvc 48 cv_T_put ml_RX1_51 ⟨Nat.le_of_ble_eq_true rfl, Nat.le_of_ble_eq_true rfl⟩ xcf3 rfl 69 (by decide) (xC_tab (t := 33) (by decide)) [.int v4, .int (0 : Int32), .int (r30 ||| ((1 : Int32) <<< (v1 &&& 31)))] rfl rfl (Nat.le_of_ble_eq_true rfl) dK_firstPlace_48 (kT_put G 33 (by decide) z m v4 (0 : Int32) (r30 ||| ((1 : Int32) <<< (v1 &&& 31)))) (fun r48 => ?_)
      refine xR_aln 51 1 dK_firstPlace_51 rfl rfl ?_
      refine xR_iln 52 3 dK_firstPlace_52 rfl rfl ?_
      refine xR_callVic 53 cv_K_mostOfLeast ml_RX1_79 ⟨Nat.le_of_ble_eq_true rfl, Nat.le_of_ble_eq_true rfl⟩ xcf1 rfl 82 (by decide) rfl [.int v2] rfl rfl (Nat.le_of_ble_eq_true rfl) dK_firstPlace_53 (kK_mostOfLeast G z r48 v2) (fun r53 => ?_)
      refine xR_iln 56 4 dK_firstPlace_56 rfl rfl ?_
      refine xR_icne 57 63 dK_firstPlace_57 (by decide) ?_ ?_
      · refine xR_aln 63 1 dK_firstPlace_63 rfl rfl ?_
        refine xR_getf 64 xcf1 2 82 (by decide) (by decide) rfl (v := .ref (xa G 69)) rfl fl_RX1_23 dK_firstPlace_64 ?_
        refine xR_il 67 5 dK_firstPlace_67 rfl ?_
        refine xR_ic 69 (0 : Int32) dK_firstPlace_69 (by decide) ?_
        refine xR_il 70 0 dK_firstPlace_70 rfl ?_
        refine xR_callVvc 72 cv_T_put ml_RX1_51 ⟨Nat.le_of_ble_eq_true rfl, Nat.le_of_ble_eq_true rfl⟩ xcf3 rfl 69 (by decide) (xC_tab (t := 33) (by decide)) [.int v4, .int (0 : Int32), .int r30] rfl rfl (Nat.le_of_ble_eq_true rfl) dK_firstPlace_72 (kT_put G 33 (by decide) z r53.2 v4 (0 : Int32) r30) (fun r72 => ?_)
        refine xR_iinc 75 5 (v4 + 1) ([(4, .int (v4 + 1)), (5, .int r30), (0, .ref (xa G 82)), (1, .int v1), (2, .int v2), (3, .int v3)]) dK_firstPlace_75 rfl rfl (by decide) rfl ?_
        refine xR_goto 78 14 dK_firstPlace_78 (by decide) ?_
        exact xR_sub [2, 3, 4, 5, 0] rfl (ih v1 v2 v3 (v4 + 1) r72)
      · refine xR_il 60 5 dK_firstPlace_60 rfl ?_
        exact xR_iret 62 rfl rfl dK_firstPlace_62
set_option maxRecDepth 100000 in
set_option maxHeartbeats 4000000 in
theorem kK_firstPlace (G : xG)   (z : xM) (m : xM) (v1 : Int32) (v2 : Int32) (v3 : Int32) : ∀ a, fK_firstPlace  v1 v2 v3 m = some a → xCt G yyK_firstPlace [.ref (xa G 82), .int v1, .int v2, .int v3] (m, z) (some (.int a.1)) (a.2, z) := by
  refine xR_ct (em := (emic z)) rfl (Nat.le_of_ble_eq_true rfl) ?_
  show xR G yyK_firstPlace _ 0 [(0, .ref (xa G 82)), (1, .int v1), (2, .int v2), (3, .int v3)] [] _ _
  unfold fK_firstPlace
  refine xR_aln 0 0 dK_firstPlace_0 rfl rfl ?_
  refine xR_iln 1 2 dK_firstPlace_1 rfl rfl ?_
  refine xR_callVic 2 cv_K_mostOfLeast ml_RX1_79 ⟨Nat.le_of_ble_eq_true rfl, Nat.le_of_ble_eq_true rfl⟩ xcf1 rfl 82 (by decide) rfl [.int v2] rfl rfl (Nat.le_of_ble_eq_true rfl) dK_firstPlace_2 (kK_mostOfLeast G z m v2) (fun r2 => ?_)
  refine xR_iln 5 3 dK_firstPlace_5 rfl rfl ?_
  refine xR_icne 6 11 dK_firstPlace_6 (by decide) ?_ ?_
  · refine xR_ic 11 (0 : Int32) dK_firstPlace_11 (by decide) ?_
    refine xR_is 12 ([(4, .int (0 : Int32)), (0, .ref (xa G 82)), (1, .int v1), (2, .int v2), (3, .int v3)]) dK_firstPlace_12 (by decide) rfl ?_
    exact xR_sub [1, 2, 3, 4, 0] rfl (kK_firstPlace_l14 G z xfu v1 v2 v3 (0 : Int32) r2.2)
  · refine xR_ic 9 (-1 : Int32) dK_firstPlace_9 (by decide) ?_
    exact xR_iret 10 rfl rfl dK_firstPlace_10
theorem dK_placeOf_0 : decode (xb yyK_placeOf) 0 = .ok (.aload_n 0, 1) := by decide +kernel
theorem dK_placeOf_1 : decode (xb yyK_placeOf) 1 = .ok (.aload_n 0, 1) := by decide +kernel
theorem dK_placeOf_2 : decode (xb yyK_placeOf) 2 = .ok (.getfield 38, 3) := by decide +kernel
theorem dK_placeOf_5 : decode (xb yyK_placeOf) 5 = .ok (.invokevirtual 79, 3) := by decide +kernel
theorem dK_placeOf_8 : decode (xb yyK_placeOf) 8 = .ok (.istore_n 2, 1) := by decide +kernel
theorem dK_placeOf_9 : decode (xb yyK_placeOf) 9 = .ok (.aload_n 0, 1) := by decide +kernel
theorem dK_placeOf_10 : decode (xb yyK_placeOf) 10 = .ok (.getfield 38, 3) := by decide +kernel
theorem dK_placeOf_13 : decode (xb yyK_placeOf) 13 = .ok (.istore_n 3, 1) := by decide +kernel
theorem dK_placeOf_14 : decode (xb yyK_placeOf) 14 = .ok (.iconst (-1), 1) := by decide +kernel
theorem dK_placeOf_15 : decode (xb yyK_placeOf) 15 = .ok (.istore 4, 2) := by decide +kernel
theorem dK_placeOf_17 : decode (xb yyK_placeOf) 17 = .ok (.iconst 0, 1) := by decide +kernel
theorem dK_placeOf_18 : decode (xb yyK_placeOf) 18 = .ok (.istore 5, 2) := by decide +kernel
theorem dK_placeOf_20 : decode (xb yyK_placeOf) 20 = .ok (.iload 5, 2) := by decide +kernel
theorem dK_placeOf_22 : decode (xb yyK_placeOf) 22 = .ok (.iload_n 1, 1) := by decide +kernel
theorem dK_placeOf_23 : decode (xb yyK_placeOf) 23 = .ok (.if_icmp .gt 47, 3) := by decide +kernel
theorem dK_placeOf_26 : decode (xb yyK_placeOf) 26 = .ok (.iload 5, 2) := by decide +kernel
theorem dK_placeOf_28 : decode (xb yyK_placeOf) 28 = .ok (.bipush 6, 2) := by decide +kernel
theorem dK_placeOf_30 : decode (xb yyK_placeOf) 30 = .ok (.if_icmp .ge 40, 3) := by decide +kernel
theorem dK_placeOf_33 : decode (xb yyK_placeOf) 33 = .ok (.aload_n 0, 1) := by decide +kernel
theorem dK_placeOf_34 : decode (xb yyK_placeOf) 34 = .ok (.getfield 38, 3) := by decide +kernel
theorem dK_placeOf_37 : decode (xb yyK_placeOf) 37 = .ok (.iload 5, 2) := by decide +kernel
theorem dK_placeOf_39 : decode (xb yyK_placeOf) 39 = .ok (.invokestatic 82, 3) := by decide +kernel
theorem dK_placeOf_42 : decode (xb yyK_placeOf) 42 = .ok (.ifCond .eq 22, 3) := by decide +kernel
theorem dK_placeOf_45 : decode (xb yyK_placeOf) 45 = .ok (.iload_n 3, 1) := by decide +kernel
theorem dK_placeOf_46 : decode (xb yyK_placeOf) 46 = .ok (.iconst 1, 1) := by decide +kernel
theorem dK_placeOf_47 : decode (xb yyK_placeOf) 47 = .ok (.iload 5, 2) := by decide +kernel
theorem dK_placeOf_49 : decode (xb yyK_placeOf) 49 = .ok (.ishl, 1) := by decide +kernel
theorem dK_placeOf_50 : decode (xb yyK_placeOf) 50 = .ok (.iconst (-1), 1) := by decide +kernel
theorem dK_placeOf_51 : decode (xb yyK_placeOf) 51 = .ok (.ixor, 1) := by decide +kernel
theorem dK_placeOf_52 : decode (xb yyK_placeOf) 52 = .ok (.iand, 1) := by decide +kernel
theorem dK_placeOf_53 : decode (xb yyK_placeOf) 53 = .ok (.istore_n 3, 1) := by decide +kernel
theorem dK_placeOf_54 : decode (xb yyK_placeOf) 54 = .ok (.aload_n 0, 1) := by decide +kernel
theorem dK_placeOf_55 : decode (xb yyK_placeOf) 55 = .ok (.iload 5, 2) := by decide +kernel
theorem dK_placeOf_57 : decode (xb yyK_placeOf) 57 = .ok (.iload_n 3, 1) := by decide +kernel
theorem dK_placeOf_58 : decode (xb yyK_placeOf) 58 = .ok (.iload_n 2, 1) := by decide +kernel
theorem dK_placeOf_59 : decode (xb yyK_placeOf) 59 = .ok (.invokevirtual 85, 3) := by decide +kernel
theorem dK_placeOf_62 : decode (xb yyK_placeOf) 62 = .ok (.istore 4, 2) := by decide +kernel
theorem dK_placeOf_64 : decode (xb yyK_placeOf) 64 = .ok (.iinc 5 1, 3) := by decide +kernel
theorem dK_placeOf_67 : decode (xb yyK_placeOf) 67 = .ok (.goto (-47), 3) := by decide +kernel
theorem dK_placeOf_70 : decode (xb yyK_placeOf) 70 = .ok (.iload 4, 2) := by decide +kernel
theorem dK_placeOf_72 : decode (xb yyK_placeOf) 72 = .ok (.ireturn, 1) := by decide +kernel
def fK_placeOf_b64 (k20 : Int32 → Int32 → Int32 → Int32 → Int32 → xM → Option (Int32 × xM)) (v1 : Int32) (v2 : Int32) (v3 : Int32) (v4 : Int32) (v5 : Int32) (m : xM) : Option (Int32 × xM) := k20 v1 v2 v3 v4 (v5 + 1) m
def fK_placeOf_l20  : Nat → Int32 → Int32 → Int32 → Int32 → Int32 → xM → Option (Int32 × xM)
  | 0, _, _, _, _, _, _ => none
  | n + 1, v1, v2, v3, v4, v5, m => (if v1 < v5 then some (v4, m) else (if (6 : Int32) ≤ v5 then some (v4, m) else (fH_holdsBit (m.1 39 1) v5).bind fun r39 => (if r39 = 0 then fK_placeOf_b64 (fK_placeOf_l20 n) v1 v2 v3 v4 v5 m else (fK_firstPlace v5 (v3 &&& (((1 : Int32) <<< (v5 &&& 31)) ^^^ (-1 : Int32))) v2 m).bind fun r59 => fK_placeOf_b64 (fK_placeOf_l20 n) v1 v2 (v3 &&& (((1 : Int32) <<< (v5 &&& 31)) ^^^ (-1 : Int32))) r59.1 v5 r59.2)))
def fK_placeOf  (v1 : Int32) (m : xM) : Option (Int32 × xM) := (fK_mostOfLeast (m.1 39 1) m).bind fun r5 => fK_placeOf_l20 xfu v1 r5.1 (r5.2.1 39 1) (-1 : Int32) (0 : Int32) r5.2
set_option maxRecDepth 100000 in
set_option maxHeartbeats 4000000 in
theorem kK_placeOf_b64 (G : xG)   (z : xM)  (k20 : Int32 → Int32 → Int32 → Int32 → Int32 → xM → Option (Int32 × xM)) (hk20 : ∀ (v1 : Int32) (v2 : Int32) (v3 : Int32) (v4 : Int32) (v5 : Int32) (m : xM), xR G yyK_placeOf (emic z) 20 [(0, .ref (xa G 82)), (1, .int v1), (2, .int v2), (3, .int v3), (4, .int v4), (5, .int v5)] [] (m, z) (k20 v1 v2 v3 v4 v5 m)) (v1 : Int32) (v2 : Int32) (v3 : Int32) (v4 : Int32) (v5 : Int32) (m : xM) : xR G yyK_placeOf (emic z) 64 [(0, .ref (xa G 82)), (1, .int v1), (2, .int v2), (3, .int v3), (4, .int v4), (5, .int v5)] [] (m, z) (fK_placeOf_b64 k20 v1 v2 v3 v4 v5 m) := by
  unfold fK_placeOf_b64
  refine xR_iinc 64 5 (v5 + 1) ([(5, .int (v5 + 1)), (0, .ref (xa G 82)), (1, .int v1), (2, .int v2), (3, .int v3), (4, .int v4)]) dK_placeOf_64 rfl rfl (by decide) rfl ?_
  refine xR_goto 67 20 dK_placeOf_67 (by decide) ?_
  exact xR_sub [1, 2, 3, 4, 5, 0] rfl (hk20 v1 v2 v3 v4 (v5 + 1) m)
set_option maxRecDepth 100000 in
set_option maxHeartbeats 4000000 in
theorem kK_placeOf_l20 (G : xG)   (z : xM)    : ∀ (n : Nat) (v1 : Int32) (v2 : Int32) (v3 : Int32) (v4 : Int32) (v5 : Int32) (m : xM), xR G yyK_placeOf (emic z) 20 [(0, .ref (xa G 82)), (1, .int v1), (2, .int v2), (3, .int v3), (4, .int v4), (5, .int v5)] [] (m, z) (fK_placeOf_l20  n v1 v2 v3 v4 v5 m) := by
  intro n
  induction n with
  | zero =>
    intro v1 v2 v3 v4 v5 m
    rw [fK_placeOf_l20]
    exact xR_none
  | succ n ih =>
    intro v1 v2 v3 v4 v5 m
    rw [fK_placeOf_l20]
    refine xR_il 20 5 dK_placeOf_20 rfl ?_
    refine xR_iln 22 1 dK_placeOf_22 rfl rfl ?_
    refine xR_icgt 23 70 dK_placeOf_23 (by decide) ?_ ?_
    · refine xR_il 70 4 dK_placeOf_70 rfl ?_
      exact xR_iret 72 rfl rfl dK_placeOf_72
    · refine xR_il 26 5 dK_placeOf_26 rfl ?_
      refine xR_bp 28 (6 : Int32) dK_placeOf_28 (by decide) ?_
      refine xR_icge 30 70 dK_placeOf_30 (by decide) ?_ ?_
      · refine xR_il 70 4 dK_placeOf_70 rfl ?_
        exact xR_iret 72 rfl rfl dK_placeOf_72
      · refine xR_aln 33 0 dK_placeOf_33 rfl rfl ?_
        refine xR_getf 34 xcf1 4 82 (by decide) (by decide) rfl (v := .int (m.1 39 1)) rfl fl_RX1_38 dK_placeOf_34 ?_
        refine xR_il 37 5 dK_placeOf_37 rfl ?_
        refine xR_callSNi (host := RX8) 39 cs_H_holdsBit (by decide +kernel) ⟨Nat.le_of_ble_eq_true rfl, Nat.le_of_ble_eq_true rfl⟩ [.int (m.1 39 1), .int v5] rfl rfl (Nat.le_of_ble_eq_true rfl) dK_placeOf_39 (kH_holdsBit G (m, z) (m.1 39 1) v5) (fun r39 => ?_)
        refine xR_ifeq 42 64 dK_placeOf_42 (by decide) ?_ ?_
        · exact kK_placeOf_b64 G z (fK_placeOf_l20 n) ih v1 v2 v3 v4 v5 m
        · refine xR_iln 45 3 dK_placeOf_45 rfl rfl ?_
          refine xR_ic 46 (1 : Int32) dK_placeOf_46 (by decide) ?_
          refine xR_il 47 5 dK_placeOf_47 rfl ?_
          refine xR_ishl 49 dK_placeOf_49 ?_
          refine xR_ic 50 (-1 : Int32) dK_placeOf_50 (by decide) ?_
          refine xR_ixor 51 dK_placeOf_51 ?_
          refine xR_iand 52 dK_placeOf_52 ?_
          refine xR_isn 53 ([(3, .int (v3 &&& (((1 : Int32) <<< (v5 &&& 31)) ^^^ (-1 : Int32)))), (0, .ref (xa G 82)), (1, .int v1), (2, .int v2), (4, .int v4), (5, .int v5)]) dK_placeOf_53 rfl (by decide) rfl ?_
          refine xR_aln 54 1 dK_placeOf_54 rfl rfl ?_
          refine xR_il 55 5 dK_placeOf_55 rfl ?_
          refine xR_iln 57 0 dK_placeOf_57 rfl rfl ?_
          refine xR_iln 58 3 dK_placeOf_58 rfl rfl ?_
          refine xR_callVic 59 cv_K_firstPlace ml_RX1_85 ⟨Nat.le_of_ble_eq_true rfl, Nat.le_of_ble_eq_true rfl⟩ xcf1 rfl 82 (by decide) rfl [.int v5, .int (v3 &&& (((1 : Int32) <<< (v5 &&& 31)) ^^^ (-1 : Int32))), .int v2] rfl rfl (Nat.le_of_ble_eq_true rfl) dK_placeOf_59 (kK_firstPlace G z m v5 (v3 &&& (((1 : Int32) <<< (v5 &&& 31)) ^^^ (-1 : Int32))) v2) (fun r59 => ?_)
          refine xR_is 62 ([(4, .int r59.1), (3, .int (v3 &&& (((1 : Int32) <<< (v5 &&& 31)) ^^^ (-1 : Int32)))), (0, .ref (xa G 82)), (1, .int v1), (2, .int v2), (5, .int v5)]) dK_placeOf_62 (by decide) rfl ?_
          exact xR_sub [2, 3, 4, 1, 0, 5] rfl (kK_placeOf_b64 G z (fK_placeOf_l20 n) ih v1 v2 (v3 &&& (((1 : Int32) <<< (v5 &&& 31)) ^^^ (-1 : Int32))) r59.1 v5 r59.2)
set_option maxRecDepth 100000 in
set_option maxHeartbeats 4000000 in
theorem kK_placeOf (G : xG)   (z : xM) (m : xM) (v1 : Int32) : ∀ a, fK_placeOf  v1 m = some a → xCt G yyK_placeOf [.ref (xa G 82), .int v1] (m, z) (some (.int a.1)) (a.2, z) := by
  refine xR_ct (em := (emic z)) rfl (Nat.le_of_ble_eq_true rfl) ?_
  show xR G yyK_placeOf _ 0 [(0, .ref (xa G 82)), (1, .int v1)] [] _ _
  unfold fK_placeOf
  refine xR_aln 0 0 dK_placeOf_0 rfl rfl ?_
  refine xR_aln 1 0 dK_placeOf_1 rfl rfl ?_
  refine xR_getf 2 xcf1 4 82 (by decide) (by decide) rfl (v := .int (m.1 39 1)) rfl fl_RX1_38 dK_placeOf_2 ?_
  refine xR_callVic 5 cv_K_mostOfLeast ml_RX1_79 ⟨Nat.le_of_ble_eq_true rfl, Nat.le_of_ble_eq_true rfl⟩ xcf1 rfl 82 (by decide) rfl [.int (m.1 39 1)] rfl rfl (Nat.le_of_ble_eq_true rfl) dK_placeOf_5 (kK_mostOfLeast G z m (m.1 39 1)) (fun r5 => ?_)
  refine xR_isn 8 ([(2, .int r5.1), (0, .ref (xa G 82)), (1, .int v1)]) dK_placeOf_8 rfl (by decide) rfl ?_
  refine xR_aln 9 1 dK_placeOf_9 rfl rfl ?_
  refine xR_getf 10 xcf1 4 82 (by decide) (by decide) rfl (v := .int (r5.2.1 39 1)) rfl fl_RX1_38 dK_placeOf_10 ?_
  refine xR_isn 13 ([(3, .int (r5.2.1 39 1)), (2, .int r5.1), (0, .ref (xa G 82)), (1, .int v1)]) dK_placeOf_13 rfl (by decide) rfl ?_
  refine xR_ic 14 (-1 : Int32) dK_placeOf_14 (by decide) ?_
  refine xR_is 15 ([(4, .int (-1 : Int32)), (3, .int (r5.2.1 39 1)), (2, .int r5.1), (0, .ref (xa G 82)), (1, .int v1)]) dK_placeOf_15 (by decide) rfl ?_
  refine xR_ic 17 (0 : Int32) dK_placeOf_17 (by decide) ?_
  refine xR_is 18 ([(5, .int (0 : Int32)), (4, .int (-1 : Int32)), (3, .int (r5.2.1 39 1)), (2, .int r5.1), (0, .ref (xa G 82)), (1, .int v1)]) dK_placeOf_18 (by decide) rfl ?_
  exact xR_sub [4, 5, 3, 2, 1, 0] rfl (kK_placeOf_l20 G z xfu v1 r5.1 (r5.2.1 39 1) (-1 : Int32) (0 : Int32) r5.2)
