theorem dT_many_0 : decode (xb yyT_many) 0 = .ok (.aload_n 0, 1) := by decide +kernel
theorem dT_many_1 : decode (xb yyT_many) 1 = .ok (.getfield 28, 3) := by decide +kernel
theorem dT_many_4 : decode (xb yyT_many) 4 = .ok (.ireturn, 1) := by decide +kernel
def fT_many (t : Nat) (m : xM) : Option (Int32) := some (m.1 36 t)
set_option maxRecDepth 100000 in
set_option maxHeartbeats 4000000 in
theorem kT_many (G : xG) (t : Nat) (ht : t < 36) (z : xM) (m : xM) : ∀ a, fT_many t m  = some a → xCt G yyT_many [.ref (xa G (36 + t))] (m, z) (some (.int a)) (m, z) := by
  refine xR_ct (em := (emi (m, z))) rfl (Nat.le_of_ble_eq_true rfl) ?_
  show xR G yyT_many _ 0 [(0, .ref (xa G (36 + t)))] [] _ _
  unfold fT_many
  refine xR_aln 0 0 dT_many_0 rfl rfl ?_
  refine xR_getf 1 xcf3 3 (36 + t) (by decide) (xk_T ht) (xC_tab ht) (v := .int (m.1 36 t)) rfl fl_RX4_28 dT_many_1 ?_
  exact xR_iret 4 rfl rfl dT_many_4
theorem dT_empty_0 : decode (xb yyT_empty) 0 = .ok (.aload_n 0, 1) := by decide +kernel
theorem dT_empty_1 : decode (xb yyT_empty) 1 = .ok (.iconst 0, 1) := by decide +kernel
theorem dT_empty_2 : decode (xb yyT_empty) 2 = .ok (.putfield 28, 3) := by decide +kernel
theorem dT_empty_5 : decode (xb yyT_empty) 5 = .ok (.return_, 1) := by decide +kernel
def fT_empty (t : Nat) (m : xM) : Option (xM) := some (xset m 36 t (0 : Int32))
set_option maxRecDepth 100000 in
set_option maxHeartbeats 4000000 in
theorem kT_empty (G : xG) (t : Nat) (ht : t < 36) (z : xM) (m : xM) : ∀ a, fT_empty t m = some a → xCt G yyT_empty [.ref (xa G (36 + t))] (m, z) (none) (a, z) := by
  refine xR_ct (em := (emvc z)) rfl (Nat.le_of_ble_eq_true rfl) ?_
  show xR G yyT_empty _ 0 [(0, .ref (xa G (36 + t)))] [] _ _
  unfold fT_empty
  refine xR_aln 0 0 dT_empty_0 rfl rfl ?_
  refine xR_ic 1 (0 : Int32) dT_empty_1 (by decide) ?_
  refine xR_putf 2 xcf3 3 (36 + t) (by decide) (xk_T ht) (xC_tab ht) rfl rfl rfl (Nat.le_of_ble_eq_true rfl) ((xset m 36 t (0 : Int32)), z) (xW_used ht) fl_RX4_28 dT_empty_2 ?_
  exact xR_vret 5 rfl rfl dT_empty_5
theorem dT_newRow_0 : decode (xb yyT_newRow) 0 = .ok (.aload_n 0, 1) := by decide +kernel
theorem dT_newRow_1 : decode (xb yyT_newRow) 1 = .ok (.getfield 28, 3) := by decide +kernel
theorem dT_newRow_4 : decode (xb yyT_newRow) 4 = .ok (.aload_n 0, 1) := by decide +kernel
theorem dT_newRow_5 : decode (xb yyT_newRow) 5 = .ok (.getfield 15, 3) := by decide +kernel
theorem dT_newRow_8 : decode (xb yyT_newRow) 8 = .ok (.if_icmp .ge 17, 3) := by decide +kernel
theorem dT_newRow_11 : decode (xb yyT_newRow) 11 = .ok (.aload_n 0, 1) := by decide +kernel
theorem dT_newRow_12 : decode (xb yyT_newRow) 12 = .ok (.dup, 1) := by decide +kernel
theorem dT_newRow_13 : decode (xb yyT_newRow) 13 = .ok (.getfield 28, 3) := by decide +kernel
theorem dT_newRow_16 : decode (xb yyT_newRow) 16 = .ok (.dup_x1, 1) := by decide +kernel
theorem dT_newRow_17 : decode (xb yyT_newRow) 17 = .ok (.iconst 1, 1) := by decide +kernel
theorem dT_newRow_18 : decode (xb yyT_newRow) 18 = .ok (.iadd, 1) := by decide +kernel
theorem dT_newRow_19 : decode (xb yyT_newRow) 19 = .ok (.putfield 28, 3) := by decide +kernel
theorem dT_newRow_22 : decode (xb yyT_newRow) 22 = .ok (.goto 4, 3) := by decide +kernel
theorem dT_newRow_25 : decode (xb yyT_newRow) 25 = .ok (.iconst (-1), 1) := by decide +kernel
theorem dT_newRow_26 : decode (xb yyT_newRow) 26 = .ok (.ireturn, 1) := by decide +kernel
def fT_newRow (t : Nat) (m : xM) : Option (Int32 × xM) := (if (xrows t) ≤ (m.1 36 t) then some ((-1 : Int32), m) else some ((m.1 36 t), (xset m 36 t ((m.1 36 t) + (1 : Int32)))))
set_option maxRecDepth 100000 in
set_option maxHeartbeats 4000000 in
theorem kT_newRow (G : xG) (t : Nat) (ht : t < 36) (z : xM) (m : xM) : ∀ a, fT_newRow t m = some a → xCt G yyT_newRow [.ref (xa G (36 + t))] (m, z) (some (.int a.1)) (a.2, z) := by
  refine xR_ct (em := (emic z)) rfl (Nat.le_of_ble_eq_true rfl) ?_
  show xR G yyT_newRow _ 0 [(0, .ref (xa G (36 + t)))] [] _ _
  unfold fT_newRow
  refine xR_aln 0 0 dT_newRow_0 rfl rfl ?_
  refine xR_getf 1 xcf3 3 (36 + t) (by decide) (xk_T ht) (xC_tab ht) (v := .int (m.1 36 t)) rfl fl_RX4_28 dT_newRow_1 ?_
  refine xR_aln 4 0 dT_newRow_4 rfl rfl ?_
  refine xR_getf 5 xcf3 0 (36 + t) (by decide) (xk_T ht) (xC_tab ht) (v := .int (xrows t)) rfl fl_RX4_15 dT_newRow_5 ?_
  refine xR_icge 8 25 dT_newRow_8 (by decide) ?_ ?_
  · refine xR_ic 25 (-1 : Int32) dT_newRow_25 (by decide) ?_
    exact xR_iret 26 rfl rfl dT_newRow_26
  · refine xR_aln 11 0 dT_newRow_11 rfl rfl ?_
    refine xR_dup 12 dT_newRow_12 rfl ?_
    refine xR_getf 13 xcf3 3 (36 + t) (by decide) (xk_T ht) (xC_tab ht) (v := .int (m.1 36 t)) rfl fl_RX4_28 dT_newRow_13 ?_
    refine xR_dup_x1 16 dT_newRow_16 rfl rfl ?_
    refine xR_ic 17 (1 : Int32) dT_newRow_17 (by decide) ?_
    refine xR_iadd 18 dT_newRow_18 ?_
    refine xR_putf 19 xcf3 3 (36 + t) (by decide) (xk_T ht) (xC_tab ht) rfl rfl rfl (Nat.le_of_ble_eq_true rfl) ((xset m 36 t ((m.1 36 t) + (1 : Int32))), z) (xW_used ht) fl_RX4_28 dT_newRow_19 ?_
    refine xR_goto 22 26 dT_newRow_22 (by decide) ?_
    exact xR_iret 26 rfl rfl dT_newRow_26
theorem dT_put_0 : decode (xb yyT_put) 0 = .ok (.iload_n 1, 1) := by decide +kernel
theorem dT_put_1 : decode (xb yyT_put) 1 = .ok (.aload_n 0, 1) := by decide +kernel
theorem dT_put_2 : decode (xb yyT_put) 2 = .ok (.getfield 21, 3) := by decide +kernel
theorem dT_put_5 : decode (xb yyT_put) 5 = .ok (.imul, 1) := by decide +kernel
theorem dT_put_6 : decode (xb yyT_put) 6 = .ok (.iload_n 2, 1) := by decide +kernel
theorem dT_put_7 : decode (xb yyT_put) 7 = .ok (.iadd, 1) := by decide +kernel
theorem dT_put_8 : decode (xb yyT_put) 8 = .ok (.istore 4, 2) := by decide +kernel
theorem dT_put_10 : decode (xb yyT_put) 10 = .ok (.iload_n 2, 1) := by decide +kernel
theorem dT_put_11 : decode (xb yyT_put) 11 = .ok (.ifCond .lt 34, 3) := by decide +kernel
theorem dT_put_14 : decode (xb yyT_put) 14 = .ok (.iload_n 2, 1) := by decide +kernel
theorem dT_put_15 : decode (xb yyT_put) 15 = .ok (.aload_n 0, 1) := by decide +kernel
theorem dT_put_16 : decode (xb yyT_put) 16 = .ok (.getfield 21, 3) := by decide +kernel
theorem dT_put_19 : decode (xb yyT_put) 19 = .ok (.if_icmp .ge 26, 3) := by decide +kernel
theorem dT_put_22 : decode (xb yyT_put) 22 = .ok (.iload 4, 2) := by decide +kernel
theorem dT_put_24 : decode (xb yyT_put) 24 = .ok (.ifCond .lt 21, 3) := by decide +kernel
theorem dT_put_27 : decode (xb yyT_put) 27 = .ok (.iload 4, 2) := by decide +kernel
theorem dT_put_29 : decode (xb yyT_put) 29 = .ok (.aload_n 0, 1) := by decide +kernel
theorem dT_put_30 : decode (xb yyT_put) 30 = .ok (.getfield 24, 3) := by decide +kernel
theorem dT_put_33 : decode (xb yyT_put) 33 = .ok (.arraylength, 1) := by decide +kernel
theorem dT_put_34 : decode (xb yyT_put) 34 = .ok (.if_icmp .ge 11, 3) := by decide +kernel
theorem dT_put_37 : decode (xb yyT_put) 37 = .ok (.aload_n 0, 1) := by decide +kernel
theorem dT_put_38 : decode (xb yyT_put) 38 = .ok (.getfield 24, 3) := by decide +kernel
theorem dT_put_41 : decode (xb yyT_put) 41 = .ok (.iload 4, 2) := by decide +kernel
theorem dT_put_43 : decode (xb yyT_put) 43 = .ok (.iload_n 3, 1) := by decide +kernel
theorem dT_put_44 : decode (xb yyT_put) 44 = .ok (.iastore, 1) := by decide +kernel
theorem dT_put_45 : decode (xb yyT_put) 45 = .ok (.return_, 1) := by decide +kernel
def fT_put (t : Nat) (v1 : Int32) (v2 : Int32) (v3 : Int32) (m : xM) : Option (xM) := (if v2 < 0 then some m else (if (xwid t) ≤ v2 then some m else (if ((v1 * (xwid t)) + v2) < 0 then some m else (if (Int32.ofNat (xlen t)) ≤ ((v1 * (xwid t)) + v2) then some m else xck (xlen t) ((v1 * (xwid t)) + v2) (some (xset m t ((v1 * (xwid t)) + v2).toNatClampNeg v3))))))
set_option maxRecDepth 100000 in
set_option maxHeartbeats 4000000 in
theorem kT_put (G : xG) (t : Nat) (ht : t < 36) (z : xM) (m : xM) (v1 : Int32) (v2 : Int32) (v3 : Int32) : ∀ a, fT_put t v1 v2 v3 m = some a → xCt G yyT_put [.ref (xa G (36 + t)), .int v1, .int v2, .int v3] (m, z) (none) (a, z) := by
  refine xR_ct (em := (emvc z)) rfl (Nat.le_of_ble_eq_true rfl) ?_
  show xR G yyT_put _ 0 [(0, .ref (xa G (36 + t))), (1, .int v1), (2, .int v2), (3, .int v3)] [] _ _
  unfold fT_put
  refine xR_iln 0 1 dT_put_0 rfl rfl ?_
  refine xR_aln 1 0 dT_put_1 rfl rfl ?_
  refine xR_getf 2 xcf3 1 (36 + t) (by decide) (xk_T ht) (xC_tab ht) (v := .int (xwid t)) rfl fl_RX4_21 dT_put_2 ?_
  refine xR_imul 5 dT_put_5 ?_
  refine xR_iln 6 2 dT_put_6 rfl rfl ?_
  refine xR_iadd 7 dT_put_7 ?_
  refine xR_is 8 ([(4, .int ((v1 * (xwid t)) + v2)), (0, .ref (xa G (36 + t))), (1, .int v1), (2, .int v2), (3, .int v3)]) dT_put_8 (by decide) rfl ?_
  refine xR_iln 10 3 dT_put_10 rfl rfl ?_
  refine xR_iflt 11 45 dT_put_11 (by decide) ?_ ?_
  · exact xR_vret 45 rfl rfl dT_put_45
  · refine xR_iln 14 3 dT_put_14 rfl rfl ?_
    refine xR_aln 15 1 dT_put_15 rfl rfl ?_
    refine xR_getf 16 xcf3 1 (36 + t) (by decide) (xk_T ht) (xC_tab ht) (v := .int (xwid t)) rfl fl_RX4_21 dT_put_16 ?_
    refine xR_icge 19 45 dT_put_19 (by decide) ?_ ?_
    · exact xR_vret 45 rfl rfl dT_put_45
    · refine xR_il 22 0 dT_put_22 rfl ?_
      refine xR_iflt 24 45 dT_put_24 (by decide) ?_ ?_
      · exact xR_vret 45 rfl rfl dT_put_45
      · refine xR_il 27 0 dT_put_27 rfl ?_
        refine xR_aln 29 1 dT_put_29 rfl rfl ?_
        refine xR_getf 30 xcf3 2 (36 + t) (by decide) (xk_T ht) (xC_tab ht) (v := .ref (xa G t)) rfl fl_RX4_24 dT_put_30 ?_
        refine xR_alen 33 t (xk_A ht) (xC_arr ht) dT_put_33 ?_
        refine xR_icge 34 45 dT_put_34 (by decide) ?_ ?_
        · exact xR_vret 45 rfl rfl dT_put_45
        · refine xR_aln 37 1 dT_put_37 rfl rfl ?_
          refine xR_getf 38 xcf3 2 (36 + t) (by decide) (xk_T ht) (xC_tab ht) (v := .ref (xa G t)) rfl fl_RX4_24 dT_put_38 ?_
          refine xR_il 41 0 dT_put_41 rfl ?_
          refine xR_iln 43 4 dT_put_43 rfl rfl ?_
          refine xR_iast 44 t (xk_A ht) (xC_arr ht) ((xset m t ((v1 * (xwid t)) + v2).toNatClampNeg v3), z) (xW_arr ht) dT_put_44 ?_
          exact xR_vret 45 rfl rfl dT_put_45
theorem dT_get_0 : decode (xb yyT_get) 0 = .ok (.iload_n 1, 1) := by decide +kernel
theorem dT_get_1 : decode (xb yyT_get) 1 = .ok (.aload_n 0, 1) := by decide +kernel
theorem dT_get_2 : decode (xb yyT_get) 2 = .ok (.getfield 21, 3) := by decide +kernel
theorem dT_get_5 : decode (xb yyT_get) 5 = .ok (.imul, 1) := by decide +kernel
theorem dT_get_6 : decode (xb yyT_get) 6 = .ok (.iload_n 2, 1) := by decide +kernel
theorem dT_get_7 : decode (xb yyT_get) 7 = .ok (.iadd, 1) := by decide +kernel
theorem dT_get_8 : decode (xb yyT_get) 8 = .ok (.istore_n 3, 1) := by decide +kernel
theorem dT_get_9 : decode (xb yyT_get) 9 = .ok (.iload_n 2, 1) := by decide +kernel
theorem dT_get_10 : decode (xb yyT_get) 10 = .ok (.ifCond .lt 24, 3) := by decide +kernel
theorem dT_get_13 : decode (xb yyT_get) 13 = .ok (.iload_n 2, 1) := by decide +kernel
theorem dT_get_14 : decode (xb yyT_get) 14 = .ok (.aload_n 0, 1) := by decide +kernel
theorem dT_get_15 : decode (xb yyT_get) 15 = .ok (.getfield 21, 3) := by decide +kernel
theorem dT_get_18 : decode (xb yyT_get) 18 = .ok (.if_icmp .ge 16, 3) := by decide +kernel
theorem dT_get_21 : decode (xb yyT_get) 21 = .ok (.iload_n 3, 1) := by decide +kernel
theorem dT_get_22 : decode (xb yyT_get) 22 = .ok (.ifCond .lt 12, 3) := by decide +kernel
theorem dT_get_25 : decode (xb yyT_get) 25 = .ok (.iload_n 3, 1) := by decide +kernel
theorem dT_get_26 : decode (xb yyT_get) 26 = .ok (.aload_n 0, 1) := by decide +kernel
theorem dT_get_27 : decode (xb yyT_get) 27 = .ok (.getfield 24, 3) := by decide +kernel
theorem dT_get_30 : decode (xb yyT_get) 30 = .ok (.arraylength, 1) := by decide +kernel
theorem dT_get_31 : decode (xb yyT_get) 31 = .ok (.if_icmp .lt 5, 3) := by decide +kernel
theorem dT_get_34 : decode (xb yyT_get) 34 = .ok (.iconst 0, 1) := by decide +kernel
theorem dT_get_35 : decode (xb yyT_get) 35 = .ok (.ireturn, 1) := by decide +kernel
theorem dT_get_36 : decode (xb yyT_get) 36 = .ok (.aload_n 0, 1) := by decide +kernel
theorem dT_get_37 : decode (xb yyT_get) 37 = .ok (.getfield 24, 3) := by decide +kernel
theorem dT_get_40 : decode (xb yyT_get) 40 = .ok (.iload_n 3, 1) := by decide +kernel
theorem dT_get_41 : decode (xb yyT_get) 41 = .ok (.iaload, 1) := by decide +kernel
theorem dT_get_42 : decode (xb yyT_get) 42 = .ok (.ireturn, 1) := by decide +kernel
def fT_get (t : Nat) (m : xM) (v1 : Int32) (v2 : Int32) : Option (Int32) := (if v2 < 0 then some (0 : Int32) else (if (xwid t) ≤ v2 then some (0 : Int32) else (if ((v1 * (xwid t)) + v2) < 0 then some (0 : Int32) else (if ((v1 * (xwid t)) + v2) < (Int32.ofNat (xlen t)) then xck (xlen t) ((v1 * (xwid t)) + v2) (some (m.1 t ((v1 * (xwid t)) + v2).toNatClampNeg)) else some (0 : Int32)))))
set_option maxRecDepth 100000 in
set_option maxHeartbeats 4000000 in
theorem kT_get (G : xG) (t : Nat) (ht : t < 36) (z : xM) (m : xM) (v1 : Int32) (v2 : Int32) : ∀ a, fT_get t m v1 v2 = some a → xCt G yyT_get [.ref (xa G (36 + t)), .int v1, .int v2] (m, z) (some (.int a)) (m, z) := by
  refine xR_ct (em := (emi (m, z))) rfl (Nat.le_of_ble_eq_true rfl) ?_
  show xR G yyT_get _ 0 [(0, .ref (xa G (36 + t))), (1, .int v1), (2, .int v2)] [] _ _
  unfold fT_get
  refine xR_iln 0 1 dT_get_0 rfl rfl ?_
  refine xR_aln 1 0 dT_get_1 rfl rfl ?_
  refine xR_getf 2 xcf3 1 (36 + t) (by decide) (xk_T ht) (xC_tab ht) (v := .int (xwid t)) rfl fl_RX4_21 dT_get_2 ?_
  refine xR_imul 5 dT_get_5 ?_
  refine xR_iln 6 2 dT_get_6 rfl rfl ?_
  refine xR_iadd 7 dT_get_7 ?_
  refine xR_isn 8 ([(3, .int ((v1 * (xwid t)) + v2)), (0, .ref (xa G (36 + t))), (1, .int v1), (2, .int v2)]) dT_get_8 rfl (by decide) rfl ?_
  refine xR_iln 9 3 dT_get_9 rfl rfl ?_
  refine xR_iflt 10 34 dT_get_10 (by decide) ?_ ?_
  · refine xR_ic 34 (0 : Int32) dT_get_34 (by decide) ?_
    exact xR_iret 35 rfl rfl dT_get_35
  · refine xR_iln 13 3 dT_get_13 rfl rfl ?_
    refine xR_aln 14 1 dT_get_14 rfl rfl ?_
    refine xR_getf 15 xcf3 1 (36 + t) (by decide) (xk_T ht) (xC_tab ht) (v := .int (xwid t)) rfl fl_RX4_21 dT_get_15 ?_
    refine xR_icge 18 34 dT_get_18 (by decide) ?_ ?_
    · refine xR_ic 34 (0 : Int32) dT_get_34 (by decide) ?_
      exact xR_iret 35 rfl rfl dT_get_35
    · refine xR_iln 21 0 dT_get_21 rfl rfl ?_
      refine xR_iflt 22 34 dT_get_22 (by decide) ?_ ?_
      · refine xR_ic 34 (0 : Int32) dT_get_34 (by decide) ?_
        exact xR_iret 35 rfl rfl dT_get_35
      · refine xR_iln 25 0 dT_get_25 rfl rfl ?_
        refine xR_aln 26 1 dT_get_26 rfl rfl ?_
        refine xR_getf 27 xcf3 2 (36 + t) (by decide) (xk_T ht) (xC_tab ht) (v := .ref (xa G t)) rfl fl_RX4_24 dT_get_27 ?_
        refine xR_alen 30 t (xk_A ht) (xC_arr ht) dT_get_30 ?_
        refine xR_iclt 31 36 dT_get_31 (by decide) ?_ ?_
        · refine xR_aln 36 1 dT_get_36 rfl rfl ?_
          refine xR_getf 37 xcf3 2 (36 + t) (by decide) (xk_T ht) (xC_tab ht) (v := .ref (xa G t)) rfl fl_RX4_24 dT_get_37 ?_
          refine xR_iln 40 0 dT_get_40 rfl rfl ?_
          refine xR_iald 41 t (xk_A ht) (xC_arr ht) dT_get_41 ?_
          exact xR_iret 42 rfl rfl dT_get_42
        · refine xR_ic 34 (0 : Int32) dT_get_34 (by decide) ?_
          exact xR_iret 35 rfl rfl dT_get_35
theorem dJ_bitCount_0 : decode (xb yyJ_bitCount) 0 = .ok (.iload_n 0, 1) := by decide +kernel
theorem dJ_bitCount_1 : decode (xb yyJ_bitCount) 1 = .ok (.iload_n 0, 1) := by decide +kernel
theorem dJ_bitCount_2 : decode (xb yyJ_bitCount) 2 = .ok (.iconst 1, 1) := by decide +kernel
theorem dJ_bitCount_3 : decode (xb yyJ_bitCount) 3 = .ok (.iushr, 1) := by decide +kernel
theorem dJ_bitCount_4 : decode (xb yyJ_bitCount) 4 = .ok (.ldc_w 265, 3) := by decide +kernel
theorem dJ_bitCount_7 : decode (xb yyJ_bitCount) 7 = .ok (.iand, 1) := by decide +kernel
theorem dJ_bitCount_8 : decode (xb yyJ_bitCount) 8 = .ok (.isub, 1) := by decide +kernel
theorem dJ_bitCount_9 : decode (xb yyJ_bitCount) 9 = .ok (.istore_n 0, 1) := by decide +kernel
theorem dJ_bitCount_10 : decode (xb yyJ_bitCount) 10 = .ok (.iload_n 0, 1) := by decide +kernel
theorem dJ_bitCount_11 : decode (xb yyJ_bitCount) 11 = .ok (.ldc_w 266, 3) := by decide +kernel
theorem dJ_bitCount_14 : decode (xb yyJ_bitCount) 14 = .ok (.iand, 1) := by decide +kernel
theorem dJ_bitCount_15 : decode (xb yyJ_bitCount) 15 = .ok (.iload_n 0, 1) := by decide +kernel
theorem dJ_bitCount_16 : decode (xb yyJ_bitCount) 16 = .ok (.iconst 2, 1) := by decide +kernel
theorem dJ_bitCount_17 : decode (xb yyJ_bitCount) 17 = .ok (.iushr, 1) := by decide +kernel
theorem dJ_bitCount_18 : decode (xb yyJ_bitCount) 18 = .ok (.ldc_w 266, 3) := by decide +kernel
theorem dJ_bitCount_21 : decode (xb yyJ_bitCount) 21 = .ok (.iand, 1) := by decide +kernel
theorem dJ_bitCount_22 : decode (xb yyJ_bitCount) 22 = .ok (.iadd, 1) := by decide +kernel
theorem dJ_bitCount_23 : decode (xb yyJ_bitCount) 23 = .ok (.istore_n 0, 1) := by decide +kernel
theorem dJ_bitCount_24 : decode (xb yyJ_bitCount) 24 = .ok (.iload_n 0, 1) := by decide +kernel
theorem dJ_bitCount_25 : decode (xb yyJ_bitCount) 25 = .ok (.iload_n 0, 1) := by decide +kernel
theorem dJ_bitCount_26 : decode (xb yyJ_bitCount) 26 = .ok (.iconst 4, 1) := by decide +kernel
theorem dJ_bitCount_27 : decode (xb yyJ_bitCount) 27 = .ok (.iushr, 1) := by decide +kernel
theorem dJ_bitCount_28 : decode (xb yyJ_bitCount) 28 = .ok (.iadd, 1) := by decide +kernel
theorem dJ_bitCount_29 : decode (xb yyJ_bitCount) 29 = .ok (.ldc_w 267, 3) := by decide +kernel
theorem dJ_bitCount_32 : decode (xb yyJ_bitCount) 32 = .ok (.iand, 1) := by decide +kernel
theorem dJ_bitCount_33 : decode (xb yyJ_bitCount) 33 = .ok (.istore_n 0, 1) := by decide +kernel
theorem dJ_bitCount_34 : decode (xb yyJ_bitCount) 34 = .ok (.iload_n 0, 1) := by decide +kernel
theorem dJ_bitCount_35 : decode (xb yyJ_bitCount) 35 = .ok (.iload_n 0, 1) := by decide +kernel
theorem dJ_bitCount_36 : decode (xb yyJ_bitCount) 36 = .ok (.bipush 8, 2) := by decide +kernel
theorem dJ_bitCount_38 : decode (xb yyJ_bitCount) 38 = .ok (.iushr, 1) := by decide +kernel
theorem dJ_bitCount_39 : decode (xb yyJ_bitCount) 39 = .ok (.iadd, 1) := by decide +kernel
theorem dJ_bitCount_40 : decode (xb yyJ_bitCount) 40 = .ok (.istore_n 0, 1) := by decide +kernel
theorem dJ_bitCount_41 : decode (xb yyJ_bitCount) 41 = .ok (.iload_n 0, 1) := by decide +kernel
theorem dJ_bitCount_42 : decode (xb yyJ_bitCount) 42 = .ok (.iload_n 0, 1) := by decide +kernel
theorem dJ_bitCount_43 : decode (xb yyJ_bitCount) 43 = .ok (.bipush 16, 2) := by decide +kernel
theorem dJ_bitCount_45 : decode (xb yyJ_bitCount) 45 = .ok (.iushr, 1) := by decide +kernel
theorem dJ_bitCount_46 : decode (xb yyJ_bitCount) 46 = .ok (.iadd, 1) := by decide +kernel
theorem dJ_bitCount_47 : decode (xb yyJ_bitCount) 47 = .ok (.istore_n 0, 1) := by decide +kernel
theorem dJ_bitCount_48 : decode (xb yyJ_bitCount) 48 = .ok (.iload_n 0, 1) := by decide +kernel
theorem dJ_bitCount_49 : decode (xb yyJ_bitCount) 49 = .ok (.bipush 63, 2) := by decide +kernel
theorem dJ_bitCount_51 : decode (xb yyJ_bitCount) 51 = .ok (.iand, 1) := by decide +kernel
theorem dJ_bitCount_52 : decode (xb yyJ_bitCount) 52 = .ok (.ireturn, 1) := by decide +kernel
def fJ_bitCount  (v0 : Int32) : Option (Int32) := some ((((((((v0 - ((v0.toUInt32 >>> ((1 : Int32).toUInt32 &&& Int32.toUInt32 31)).toInt32 &&& (1431655765 : Int32))) &&& (858993459 : Int32)) + (((v0 - ((v0.toUInt32 >>> ((1 : Int32).toUInt32 &&& Int32.toUInt32 31)).toInt32 &&& (1431655765 : Int32))).toUInt32 >>> ((2 : Int32).toUInt32 &&& Int32.toUInt32 31)).toInt32 &&& (858993459 : Int32))) + ((((v0 - ((v0.toUInt32 >>> ((1 : Int32).toUInt32 &&& Int32.toUInt32 31)).toInt32 &&& (1431655765 : Int32))) &&& (858993459 : Int32)) + (((v0 - ((v0.toUInt32 >>> ((1 : Int32).toUInt32 &&& Int32.toUInt32 31)).toInt32 &&& (1431655765 : Int32))).toUInt32 >>> ((2 : Int32).toUInt32 &&& Int32.toUInt32 31)).toInt32 &&& (858993459 : Int32))).toUInt32 >>> ((4 : Int32).toUInt32 &&& Int32.toUInt32 31)).toInt32) &&& (252645135 : Int32)) + ((((((v0 - ((v0.toUInt32 >>> ((1 : Int32).toUInt32 &&& Int32.toUInt32 31)).toInt32 &&& (1431655765 : Int32))) &&& (858993459 : Int32)) + (((v0 - ((v0.toUInt32 >>> ((1 : Int32).toUInt32 &&& Int32.toUInt32 31)).toInt32 &&& (1431655765 : Int32))).toUInt32 >>> ((2 : Int32).toUInt32 &&& Int32.toUInt32 31)).toInt32 &&& (858993459 : Int32))) + ((((v0 - ((v0.toUInt32 >>> ((1 : Int32).toUInt32 &&& Int32.toUInt32 31)).toInt32 &&& (1431655765 : Int32))) &&& (858993459 : Int32)) + (((v0 - ((v0.toUInt32 >>> ((1 : Int32).toUInt32 &&& Int32.toUInt32 31)).toInt32 &&& (1431655765 : Int32))).toUInt32 >>> ((2 : Int32).toUInt32 &&& Int32.toUInt32 31)).toInt32 &&& (858993459 : Int32))).toUInt32 >>> ((4 : Int32).toUInt32 &&& Int32.toUInt32 31)).toInt32) &&& (252645135 : Int32)).toUInt32 >>> ((8 : Int32).toUInt32 &&& Int32.toUInt32 31)).toInt32) + (((((((v0 - ((v0.toUInt32 >>> ((1 : Int32).toUInt32 &&& Int32.toUInt32 31)).toInt32 &&& (1431655765 : Int32))) &&& (858993459 : Int32)) + (((v0 - ((v0.toUInt32 >>> ((1 : Int32).toUInt32 &&& Int32.toUInt32 31)).toInt32 &&& (1431655765 : Int32))).toUInt32 >>> ((2 : Int32).toUInt32 &&& Int32.toUInt32 31)).toInt32 &&& (858993459 : Int32))) + ((((v0 - ((v0.toUInt32 >>> ((1 : Int32).toUInt32 &&& Int32.toUInt32 31)).toInt32 &&& (1431655765 : Int32))) &&& (858993459 : Int32)) + (((v0 - ((v0.toUInt32 >>> ((1 : Int32).toUInt32 &&& Int32.toUInt32 31)).toInt32 &&& (1431655765 : Int32))).toUInt32 >>> ((2 : Int32).toUInt32 &&& Int32.toUInt32 31)).toInt32 &&& (858993459 : Int32))).toUInt32 >>> ((4 : Int32).toUInt32 &&& Int32.toUInt32 31)).toInt32) &&& (252645135 : Int32)) + ((((((v0 - ((v0.toUInt32 >>> ((1 : Int32).toUInt32 &&& Int32.toUInt32 31)).toInt32 &&& (1431655765 : Int32))) &&& (858993459 : Int32)) + (((v0 - ((v0.toUInt32 >>> ((1 : Int32).toUInt32 &&& Int32.toUInt32 31)).toInt32 &&& (1431655765 : Int32))).toUInt32 >>> ((2 : Int32).toUInt32 &&& Int32.toUInt32 31)).toInt32 &&& (858993459 : Int32))) + ((((v0 - ((v0.toUInt32 >>> ((1 : Int32).toUInt32 &&& Int32.toUInt32 31)).toInt32 &&& (1431655765 : Int32))) &&& (858993459 : Int32)) + (((v0 - ((v0.toUInt32 >>> ((1 : Int32).toUInt32 &&& Int32.toUInt32 31)).toInt32 &&& (1431655765 : Int32))).toUInt32 >>> ((2 : Int32).toUInt32 &&& Int32.toUInt32 31)).toInt32 &&& (858993459 : Int32))).toUInt32 >>> ((4 : Int32).toUInt32 &&& Int32.toUInt32 31)).toInt32) &&& (252645135 : Int32)).toUInt32 >>> ((8 : Int32).toUInt32 &&& Int32.toUInt32 31)).toInt32).toUInt32 >>> ((16 : Int32).toUInt32 &&& Int32.toUInt32 31)).toInt32) &&& (63 : Int32))
set_option maxRecDepth 100000 in
set_option maxHeartbeats 4000000 in
theorem kJ_bitCount (G : xG)   (S : xS)  (v0 : Int32) : ∀ a, fJ_bitCount  v0 = some a → xCt G yyJ_bitCount [.int v0] S (some (.int a)) S := by
  refine xR_ct (em := (emi S)) rfl (Nat.le_of_ble_eq_true rfl) ?_
  show xR G yyJ_bitCount _ 0 [(0, .int v0)] [] _ _
  unfold fJ_bitCount
  refine xR_iln 0 0 dJ_bitCount_0 rfl rfl ?_
  refine xR_iln 1 0 dJ_bitCount_1 rfl rfl ?_
  refine xR_ic 2 (1 : Int32) dJ_bitCount_2 (by decide) ?_
  refine xR_iushr 3 dJ_bitCount_3 ?_
  refine xR_ldcw 4 ci_RJ6_265 dJ_bitCount_4 ?_
  refine xR_iand 7 dJ_bitCount_7 ?_
  refine xR_isub 8 dJ_bitCount_8 ?_
  refine xR_isn 9 ([(0, .int (v0 - ((v0.toUInt32 >>> ((1 : Int32).toUInt32 &&& Int32.toUInt32 31)).toInt32 &&& (1431655765 : Int32))))]) dJ_bitCount_9 rfl (by decide) rfl ?_
  refine xR_iln 10 0 dJ_bitCount_10 rfl rfl ?_
  refine xR_ldcw 11 ci_RJ6_266 dJ_bitCount_11 ?_
  refine xR_iand 14 dJ_bitCount_14 ?_
  refine xR_iln 15 0 dJ_bitCount_15 rfl rfl ?_
  refine xR_ic 16 (2 : Int32) dJ_bitCount_16 (by decide) ?_
  refine xR_iushr 17 dJ_bitCount_17 ?_
  refine xR_ldcw 18 ci_RJ6_266 dJ_bitCount_18 ?_
  refine xR_iand 21 dJ_bitCount_21 ?_
  refine xR_iadd 22 dJ_bitCount_22 ?_
  refine xR_isn 23 ([(0, .int (((v0 - ((v0.toUInt32 >>> ((1 : Int32).toUInt32 &&& Int32.toUInt32 31)).toInt32 &&& (1431655765 : Int32))) &&& (858993459 : Int32)) + (((v0 - ((v0.toUInt32 >>> ((1 : Int32).toUInt32 &&& Int32.toUInt32 31)).toInt32 &&& (1431655765 : Int32))).toUInt32 >>> ((2 : Int32).toUInt32 &&& Int32.toUInt32 31)).toInt32 &&& (858993459 : Int32))))]) dJ_bitCount_23 rfl (by decide) rfl ?_
  refine xR_iln 24 0 dJ_bitCount_24 rfl rfl ?_
  refine xR_iln 25 0 dJ_bitCount_25 rfl rfl ?_
  refine xR_ic 26 (4 : Int32) dJ_bitCount_26 (by decide) ?_
  refine xR_iushr 27 dJ_bitCount_27 ?_
  refine xR_iadd 28 dJ_bitCount_28 ?_
  refine xR_ldcw 29 ci_RJ6_267 dJ_bitCount_29 ?_
  refine xR_iand 32 dJ_bitCount_32 ?_
  refine xR_isn 33 ([(0, .int (((((v0 - ((v0.toUInt32 >>> ((1 : Int32).toUInt32 &&& Int32.toUInt32 31)).toInt32 &&& (1431655765 : Int32))) &&& (858993459 : Int32)) + (((v0 - ((v0.toUInt32 >>> ((1 : Int32).toUInt32 &&& Int32.toUInt32 31)).toInt32 &&& (1431655765 : Int32))).toUInt32 >>> ((2 : Int32).toUInt32 &&& Int32.toUInt32 31)).toInt32 &&& (858993459 : Int32))) + ((((v0 - ((v0.toUInt32 >>> ((1 : Int32).toUInt32 &&& Int32.toUInt32 31)).toInt32 &&& (1431655765 : Int32))) &&& (858993459 : Int32)) + (((v0 - ((v0.toUInt32 >>> ((1 : Int32).toUInt32 &&& Int32.toUInt32 31)).toInt32 &&& (1431655765 : Int32))).toUInt32 >>> ((2 : Int32).toUInt32 &&& Int32.toUInt32 31)).toInt32 &&& (858993459 : Int32))).toUInt32 >>> ((4 : Int32).toUInt32 &&& Int32.toUInt32 31)).toInt32) &&& (252645135 : Int32)))]) dJ_bitCount_33 rfl (by decide) rfl ?_
  refine xR_iln 34 0 dJ_bitCount_34 rfl rfl ?_
  refine xR_iln 35 0 dJ_bitCount_35 rfl rfl ?_
  refine xR_bp 36 (8 : Int32) dJ_bitCount_36 (by decide) ?_
  refine xR_iushr 38 dJ_bitCount_38 ?_
  refine xR_iadd 39 dJ_bitCount_39 ?_
  refine xR_isn 40 ([(0, .int ((((((v0 - ((v0.toUInt32 >>> ((1 : Int32).toUInt32 &&& Int32.toUInt32 31)).toInt32 &&& (1431655765 : Int32))) &&& (858993459 : Int32)) + (((v0 - ((v0.toUInt32 >>> ((1 : Int32).toUInt32 &&& Int32.toUInt32 31)).toInt32 &&& (1431655765 : Int32))).toUInt32 >>> ((2 : Int32).toUInt32 &&& Int32.toUInt32 31)).toInt32 &&& (858993459 : Int32))) + ((((v0 - ((v0.toUInt32 >>> ((1 : Int32).toUInt32 &&& Int32.toUInt32 31)).toInt32 &&& (1431655765 : Int32))) &&& (858993459 : Int32)) + (((v0 - ((v0.toUInt32 >>> ((1 : Int32).toUInt32 &&& Int32.toUInt32 31)).toInt32 &&& (1431655765 : Int32))).toUInt32 >>> ((2 : Int32).toUInt32 &&& Int32.toUInt32 31)).toInt32 &&& (858993459 : Int32))).toUInt32 >>> ((4 : Int32).toUInt32 &&& Int32.toUInt32 31)).toInt32) &&& (252645135 : Int32)) + ((((((v0 - ((v0.toUInt32 >>> ((1 : Int32).toUInt32 &&& Int32.toUInt32 31)).toInt32 &&& (1431655765 : Int32))) &&& (858993459 : Int32)) + (((v0 - ((v0.toUInt32 >>> ((1 : Int32).toUInt32 &&& Int32.toUInt32 31)).toInt32 &&& (1431655765 : Int32))).toUInt32 >>> ((2 : Int32).toUInt32 &&& Int32.toUInt32 31)).toInt32 &&& (858993459 : Int32))) + ((((v0 - ((v0.toUInt32 >>> ((1 : Int32).toUInt32 &&& Int32.toUInt32 31)).toInt32 &&& (1431655765 : Int32))) &&& (858993459 : Int32)) + (((v0 - ((v0.toUInt32 >>> ((1 : Int32).toUInt32 &&& Int32.toUInt32 31)).toInt32 &&& (1431655765 : Int32))).toUInt32 >>> ((2 : Int32).toUInt32 &&& Int32.toUInt32 31)).toInt32 &&& (858993459 : Int32))).toUInt32 >>> ((4 : Int32).toUInt32 &&& Int32.toUInt32 31)).toInt32) &&& (252645135 : Int32)).toUInt32 >>> ((8 : Int32).toUInt32 &&& Int32.toUInt32 31)).toInt32))]) dJ_bitCount_40 rfl (by decide) rfl ?_
  refine xR_iln 41 0 dJ_bitCount_41 rfl rfl ?_
  refine xR_iln 42 0 dJ_bitCount_42 rfl rfl ?_
  refine xR_bp 43 (16 : Int32) dJ_bitCount_43 (by decide) ?_
  refine xR_iushr 45 dJ_bitCount_45 ?_
  refine xR_iadd 46 dJ_bitCount_46 ?_
  refine xR_isn 47 ([(0, .int (((((((v0 - ((v0.toUInt32 >>> ((1 : Int32).toUInt32 &&& Int32.toUInt32 31)).toInt32 &&& (1431655765 : Int32))) &&& (858993459 : Int32)) + (((v0 - ((v0.toUInt32 >>> ((1 : Int32).toUInt32 &&& Int32.toUInt32 31)).toInt32 &&& (1431655765 : Int32))).toUInt32 >>> ((2 : Int32).toUInt32 &&& Int32.toUInt32 31)).toInt32 &&& (858993459 : Int32))) + ((((v0 - ((v0.toUInt32 >>> ((1 : Int32).toUInt32 &&& Int32.toUInt32 31)).toInt32 &&& (1431655765 : Int32))) &&& (858993459 : Int32)) + (((v0 - ((v0.toUInt32 >>> ((1 : Int32).toUInt32 &&& Int32.toUInt32 31)).toInt32 &&& (1431655765 : Int32))).toUInt32 >>> ((2 : Int32).toUInt32 &&& Int32.toUInt32 31)).toInt32 &&& (858993459 : Int32))).toUInt32 >>> ((4 : Int32).toUInt32 &&& Int32.toUInt32 31)).toInt32) &&& (252645135 : Int32)) + ((((((v0 - ((v0.toUInt32 >>> ((1 : Int32).toUInt32 &&& Int32.toUInt32 31)).toInt32 &&& (1431655765 : Int32))) &&& (858993459 : Int32)) + (((v0 - ((v0.toUInt32 >>> ((1 : Int32).toUInt32 &&& Int32.toUInt32 31)).toInt32 &&& (1431655765 : Int32))).toUInt32 >>> ((2 : Int32).toUInt32 &&& Int32.toUInt32 31)).toInt32 &&& (858993459 : Int32))) + ((((v0 - ((v0.toUInt32 >>> ((1 : Int32).toUInt32 &&& Int32.toUInt32 31)).toInt32 &&& (1431655765 : Int32))) &&& (858993459 : Int32)) + (((v0 - ((v0.toUInt32 >>> ((1 : Int32).toUInt32 &&& Int32.toUInt32 31)).toInt32 &&& (1431655765 : Int32))).toUInt32 >>> ((2 : Int32).toUInt32 &&& Int32.toUInt32 31)).toInt32 &&& (858993459 : Int32))).toUInt32 >>> ((4 : Int32).toUInt32 &&& Int32.toUInt32 31)).toInt32) &&& (252645135 : Int32)).toUInt32 >>> ((8 : Int32).toUInt32 &&& Int32.toUInt32 31)).toInt32) + (((((((v0 - ((v0.toUInt32 >>> ((1 : Int32).toUInt32 &&& Int32.toUInt32 31)).toInt32 &&& (1431655765 : Int32))) &&& (858993459 : Int32)) + (((v0 - ((v0.toUInt32 >>> ((1 : Int32).toUInt32 &&& Int32.toUInt32 31)).toInt32 &&& (1431655765 : Int32))).toUInt32 >>> ((2 : Int32).toUInt32 &&& Int32.toUInt32 31)).toInt32 &&& (858993459 : Int32))) + ((((v0 - ((v0.toUInt32 >>> ((1 : Int32).toUInt32 &&& Int32.toUInt32 31)).toInt32 &&& (1431655765 : Int32))) &&& (858993459 : Int32)) + (((v0 - ((v0.toUInt32 >>> ((1 : Int32).toUInt32 &&& Int32.toUInt32 31)).toInt32 &&& (1431655765 : Int32))).toUInt32 >>> ((2 : Int32).toUInt32 &&& Int32.toUInt32 31)).toInt32 &&& (858993459 : Int32))).toUInt32 >>> ((4 : Int32).toUInt32 &&& Int32.toUInt32 31)).toInt32) &&& (252645135 : Int32)) + ((((((v0 - ((v0.toUInt32 >>> ((1 : Int32).toUInt32 &&& Int32.toUInt32 31)).toInt32 &&& (1431655765 : Int32))) &&& (858993459 : Int32)) + (((v0 - ((v0.toUInt32 >>> ((1 : Int32).toUInt32 &&& Int32.toUInt32 31)).toInt32 &&& (1431655765 : Int32))).toUInt32 >>> ((2 : Int32).toUInt32 &&& Int32.toUInt32 31)).toInt32 &&& (858993459 : Int32))) + ((((v0 - ((v0.toUInt32 >>> ((1 : Int32).toUInt32 &&& Int32.toUInt32 31)).toInt32 &&& (1431655765 : Int32))) &&& (858993459 : Int32)) + (((v0 - ((v0.toUInt32 >>> ((1 : Int32).toUInt32 &&& Int32.toUInt32 31)).toInt32 &&& (1431655765 : Int32))).toUInt32 >>> ((2 : Int32).toUInt32 &&& Int32.toUInt32 31)).toInt32 &&& (858993459 : Int32))).toUInt32 >>> ((4 : Int32).toUInt32 &&& Int32.toUInt32 31)).toInt32) &&& (252645135 : Int32)).toUInt32 >>> ((8 : Int32).toUInt32 &&& Int32.toUInt32 31)).toInt32).toUInt32 >>> ((16 : Int32).toUInt32 &&& Int32.toUInt32 31)).toInt32))]) dJ_bitCount_47 rfl (by decide) rfl ?_
  refine xR_iln 48 0 dJ_bitCount_48 rfl rfl ?_
  refine xR_bp 49 (63 : Int32) dJ_bitCount_49 (by decide) ?_
  refine xR_iand 51 dJ_bitCount_51 ?_
  exact xR_iret 52 rfl rfl dJ_bitCount_52
theorem dT_become_0 : decode (xb yyT_become) 0 = .ok (.aload_n 1, 1) := by decide +kernel
theorem dT_become_1 : decode (xb yyT_become) 1 = .ok (.getfield 24, 3) := by decide +kernel
theorem dT_become_4 : decode (xb yyT_become) 4 = .ok (.iconst 0, 1) := by decide +kernel
theorem dT_become_5 : decode (xb yyT_become) 5 = .ok (.aload_n 0, 1) := by decide +kernel
theorem dT_become_6 : decode (xb yyT_become) 6 = .ok (.getfield 24, 3) := by decide +kernel
theorem dT_become_9 : decode (xb yyT_become) 9 = .ok (.iconst 0, 1) := by decide +kernel
theorem dT_become_10 : decode (xb yyT_become) 10 = .ok (.aload_n 0, 1) := by decide +kernel
theorem dT_become_11 : decode (xb yyT_become) 11 = .ok (.getfield 24, 3) := by decide +kernel
theorem dT_become_14 : decode (xb yyT_become) 14 = .ok (.arraylength, 1) := by decide +kernel
theorem dT_become_15 : decode (xb yyT_become) 15 = .ok (.aload_n 1, 1) := by decide +kernel
theorem dT_become_16 : decode (xb yyT_become) 16 = .ok (.getfield 24, 3) := by decide +kernel
theorem dT_become_19 : decode (xb yyT_become) 19 = .ok (.arraylength, 1) := by decide +kernel
theorem dT_become_20 : decode (xb yyT_become) 20 = .ok (.invokestatic 37, 3) := by decide +kernel
theorem dT_become_23 : decode (xb yyT_become) 23 = .ok (.invokestatic 31, 3) := by decide +kernel
theorem dT_become_26 : decode (xb yyT_become) 26 = .ok (.aload_n 0, 1) := by decide +kernel
theorem dT_become_27 : decode (xb yyT_become) 27 = .ok (.aload_n 1, 1) := by decide +kernel
theorem dT_become_28 : decode (xb yyT_become) 28 = .ok (.getfield 28, 3) := by decide +kernel
theorem dT_become_31 : decode (xb yyT_become) 31 = .ok (.aload_n 0, 1) := by decide +kernel
theorem dT_become_32 : decode (xb yyT_become) 32 = .ok (.getfield 15, 3) := by decide +kernel
theorem dT_become_35 : decode (xb yyT_become) 35 = .ok (.invokestatic 37, 3) := by decide +kernel
theorem dT_become_38 : decode (xb yyT_become) 38 = .ok (.putfield 28, 3) := by decide +kernel
theorem dT_become_41 : decode (xb yyT_become) 41 = .ok (.return_, 1) := by decide +kernel
def fT_become (t : Nat) (t1 : Nat) (m : xM) : Option (xM) := xcpy (xlen t1) (xlen t) (0 : Int32) (0 : Int32) (xmin (Int32.ofNat (xlen t)) (Int32.ofNat (xlen t1))) (some (xset (xcpm m t1 t (0 : Int32) (0 : Int32) (xmin (Int32.ofNat (xlen t)) (Int32.ofNat (xlen t1)))) 36 t (xmin ((xcpm m t1 t (0 : Int32) (0 : Int32) (xmin (Int32.ofNat (xlen t)) (Int32.ofNat (xlen t1)))).1 36 t1) (xrows t))))
set_option maxRecDepth 100000 in
set_option maxHeartbeats 4000000 in
theorem kT_become (G : xG) (t : Nat) (t1 : Nat) (ht : t < 36) (ht1 : t1 < 36) (z : xM) (m : xM) : ∀ a, fT_become t t1 m = some a → xCt G yyT_become [.ref (xa G (36 + t)), .ref (xa G (36 + t1))] (m, z) (none) (a, z) := by
  refine xR_ct (em := (emvc z)) rfl (Nat.le_of_ble_eq_true rfl) ?_
  show xR G yyT_become _ 0 [(0, .ref (xa G (36 + t))), (1, .ref (xa G (36 + t1)))] [] _ _
  unfold fT_become
  refine xR_aln 0 1 dT_become_0 rfl rfl ?_
  refine xR_getf 1 xcf3 2 (36 + t1) (by decide) (xk_T ht1) (xC_tab ht1) (v := .ref (xa G t1)) rfl fl_RX4_24 dT_become_1 ?_
  refine xR_ic 4 (0 : Int32) dT_become_4 (by decide) ?_
  refine xR_aln 5 0 dT_become_5 rfl rfl ?_
  refine xR_getf 6 xcf3 2 (36 + t) (by decide) (xk_T ht) (xC_tab ht) (v := .ref (xa G t)) rfl fl_RX4_24 dT_become_6 ?_
  refine xR_ic 9 (0 : Int32) dT_become_9 (by decide) ?_
  refine xR_aln 10 0 dT_become_10 rfl rfl ?_
  refine xR_getf 11 xcf3 2 (36 + t) (by decide) (xk_T ht) (xC_tab ht) (v := .ref (xa G t)) rfl fl_RX4_24 dT_become_11 ?_
  refine xR_alen 14 t (xk_A ht) (xC_arr ht) dT_become_14 ?_
  refine xR_aln 15 1 dT_become_15 rfl rfl ?_
  refine xR_getf 16 xcf3 2 (36 + t1) (by decide) (xk_T ht1) (xC_tab ht1) (v := .ref (xa G t1)) rfl fl_RX4_24 dT_become_16 ?_
  refine xR_alen 19 t1 (xk_A ht1) (xC_arr ht1) dT_become_19 ?_
  refine xR_mmin 20 ml_RX4_37 ⟨Nat.le_of_ble_eq_true rfl, Nat.le_of_ble_eq_true rfl⟩ dT_become_20 ?_
  refine xR_copy 23 ml_RX4_31 t1 t (xk_A ht1) (xk_A ht) (xC_arr ht1) (xC_arr ht) ((xcpm m t1 t (0 : Int32) (0 : Int32) (xmin (Int32.ofNat (xlen t)) (Int32.ofNat (xlen t1)))), z) (xW_copy ht) ⟨Nat.le_of_ble_eq_true rfl, Nat.le_of_ble_eq_true rfl⟩ dT_become_23 ?_
  refine xR_aln 26 0 dT_become_26 rfl rfl ?_
  refine xR_aln 27 1 dT_become_27 rfl rfl ?_
  refine xR_getf 28 xcf3 3 (36 + t1) (by decide) (xk_T ht1) (xC_tab ht1) (v := .int ((xcpm m t1 t (0 : Int32) (0 : Int32) (xmin (Int32.ofNat (xlen t)) (Int32.ofNat (xlen t1)))).1 36 t1)) rfl fl_RX4_28 dT_become_28 ?_
  refine xR_aln 31 0 dT_become_31 rfl rfl ?_
  refine xR_getf 32 xcf3 0 (36 + t) (by decide) (xk_T ht) (xC_tab ht) (v := .int (xrows t)) rfl fl_RX4_15 dT_become_32 ?_
  refine xR_mmin 35 ml_RX4_37 ⟨Nat.le_of_ble_eq_true rfl, Nat.le_of_ble_eq_true rfl⟩ dT_become_35 ?_
  refine xR_putf 38 xcf3 3 (36 + t) (by decide) (xk_T ht) (xC_tab ht) rfl rfl rfl (Nat.le_of_ble_eq_true rfl) ((xset (xcpm m t1 t (0 : Int32) (0 : Int32) (xmin (Int32.ofNat (xlen t)) (Int32.ofNat (xlen t1)))) 36 t (xmin ((xcpm m t1 t (0 : Int32) (0 : Int32) (xmin (Int32.ofNat (xlen t)) (Int32.ofNat (xlen t1)))).1 36 t1) (xrows t))), z) (xW_used ht) fl_RX4_28 dT_become_38 ?_
  exact xR_vret 41 rfl rfl dT_become_41
theorem dT_dropFirst_0 : decode (xb yyT_dropFirst) 0 = .ok (.aload_n 0, 1) := by decide +kernel
theorem dT_dropFirst_1 : decode (xb yyT_dropFirst) 1 = .ok (.getfield 28, 3) := by decide +kernel
theorem dT_dropFirst_4 : decode (xb yyT_dropFirst) 4 = .ok (.ifCond .le 51, 3) := by decide +kernel
theorem dT_dropFirst_7 : decode (xb yyT_dropFirst) 7 = .ok (.aload_n 0, 1) := by decide +kernel
theorem dT_dropFirst_8 : decode (xb yyT_dropFirst) 8 = .ok (.getfield 21, 3) := by decide +kernel
theorem dT_dropFirst_11 : decode (xb yyT_dropFirst) 11 = .ok (.aload_n 0, 1) := by decide +kernel
theorem dT_dropFirst_12 : decode (xb yyT_dropFirst) 12 = .ok (.getfield 24, 3) := by decide +kernel
theorem dT_dropFirst_15 : decode (xb yyT_dropFirst) 15 = .ok (.arraylength, 1) := by decide +kernel
theorem dT_dropFirst_16 : decode (xb yyT_dropFirst) 16 = .ok (.if_icmp .gt 39, 3) := by decide +kernel
theorem dT_dropFirst_19 : decode (xb yyT_dropFirst) 19 = .ok (.aload_n 0, 1) := by decide +kernel
theorem dT_dropFirst_20 : decode (xb yyT_dropFirst) 20 = .ok (.getfield 24, 3) := by decide +kernel
theorem dT_dropFirst_23 : decode (xb yyT_dropFirst) 23 = .ok (.aload_n 0, 1) := by decide +kernel
theorem dT_dropFirst_24 : decode (xb yyT_dropFirst) 24 = .ok (.getfield 21, 3) := by decide +kernel
theorem dT_dropFirst_27 : decode (xb yyT_dropFirst) 27 = .ok (.aload_n 0, 1) := by decide +kernel
theorem dT_dropFirst_28 : decode (xb yyT_dropFirst) 28 = .ok (.getfield 24, 3) := by decide +kernel
theorem dT_dropFirst_31 : decode (xb yyT_dropFirst) 31 = .ok (.iconst 0, 1) := by decide +kernel
theorem dT_dropFirst_32 : decode (xb yyT_dropFirst) 32 = .ok (.aload_n 0, 1) := by decide +kernel
theorem dT_dropFirst_33 : decode (xb yyT_dropFirst) 33 = .ok (.getfield 24, 3) := by decide +kernel
theorem dT_dropFirst_36 : decode (xb yyT_dropFirst) 36 = .ok (.arraylength, 1) := by decide +kernel
theorem dT_dropFirst_37 : decode (xb yyT_dropFirst) 37 = .ok (.aload_n 0, 1) := by decide +kernel
theorem dT_dropFirst_38 : decode (xb yyT_dropFirst) 38 = .ok (.getfield 21, 3) := by decide +kernel
theorem dT_dropFirst_41 : decode (xb yyT_dropFirst) 41 = .ok (.isub, 1) := by decide +kernel
theorem dT_dropFirst_42 : decode (xb yyT_dropFirst) 42 = .ok (.invokestatic 31, 3) := by decide +kernel
theorem dT_dropFirst_45 : decode (xb yyT_dropFirst) 45 = .ok (.aload_n 0, 1) := by decide +kernel
theorem dT_dropFirst_46 : decode (xb yyT_dropFirst) 46 = .ok (.dup, 1) := by decide +kernel
theorem dT_dropFirst_47 : decode (xb yyT_dropFirst) 47 = .ok (.getfield 28, 3) := by decide +kernel
theorem dT_dropFirst_50 : decode (xb yyT_dropFirst) 50 = .ok (.iconst 1, 1) := by decide +kernel
theorem dT_dropFirst_51 : decode (xb yyT_dropFirst) 51 = .ok (.isub, 1) := by decide +kernel
theorem dT_dropFirst_52 : decode (xb yyT_dropFirst) 52 = .ok (.putfield 28, 3) := by decide +kernel
theorem dT_dropFirst_55 : decode (xb yyT_dropFirst) 55 = .ok (.return_, 1) := by decide +kernel
def fT_dropFirst (t : Nat) (m : xM) : Option (xM) := (if (m.1 36 t) ≤ 0 then some m else (if (Int32.ofNat (xlen t)) < (xwid t) then some m else xcpy (xlen t) (xlen t) (xwid t) (0 : Int32) ((Int32.ofNat (xlen t)) - (xwid t)) (some (xset (xcpm m t t (xwid t) (0 : Int32) ((Int32.ofNat (xlen t)) - (xwid t))) 36 t (((xcpm m t t (xwid t) (0 : Int32) ((Int32.ofNat (xlen t)) - (xwid t))).1 36 t) - (1 : Int32))))))
set_option maxRecDepth 100000 in
set_option maxHeartbeats 4000000 in
theorem kT_dropFirst (G : xG) (t : Nat) (ht : t < 36) (z : xM) (m : xM) : ∀ a, fT_dropFirst t m = some a → xCt G yyT_dropFirst [.ref (xa G (36 + t))] (m, z) (none) (a, z) := by
  refine xR_ct (em := (emvc z)) rfl (Nat.le_of_ble_eq_true rfl) ?_
  show xR G yyT_dropFirst _ 0 [(0, .ref (xa G (36 + t)))] [] _ _
  unfold fT_dropFirst
  refine xR_aln 0 0 dT_dropFirst_0 rfl rfl ?_
  refine xR_getf 1 xcf3 3 (36 + t) (by decide) (xk_T ht) (xC_tab ht) (v := .int (m.1 36 t)) rfl fl_RX4_28 dT_dropFirst_1 ?_
  refine xR_ifle 4 55 dT_dropFirst_4 (by decide) ?_ ?_
  · exact xR_vret 55 rfl rfl dT_dropFirst_55
  · refine xR_aln 7 0 dT_dropFirst_7 rfl rfl ?_
    refine xR_getf 8 xcf3 1 (36 + t) (by decide) (xk_T ht) (xC_tab ht) (v := .int (xwid t)) rfl fl_RX4_21 dT_dropFirst_8 ?_
    refine xR_aln 11 0 dT_dropFirst_11 rfl rfl ?_
    refine xR_getf 12 xcf3 2 (36 + t) (by decide) (xk_T ht) (xC_tab ht) (v := .ref (xa G t)) rfl fl_RX4_24 dT_dropFirst_12 ?_
    refine xR_alen 15 t (xk_A ht) (xC_arr ht) dT_dropFirst_15 ?_
    refine xR_icgt 16 55 dT_dropFirst_16 (by decide) ?_ ?_
    · exact xR_vret 55 rfl rfl dT_dropFirst_55
    · refine xR_aln 19 0 dT_dropFirst_19 rfl rfl ?_
      refine xR_getf 20 xcf3 2 (36 + t) (by decide) (xk_T ht) (xC_tab ht) (v := .ref (xa G t)) rfl fl_RX4_24 dT_dropFirst_20 ?_
      refine xR_aln 23 0 dT_dropFirst_23 rfl rfl ?_
      refine xR_getf 24 xcf3 1 (36 + t) (by decide) (xk_T ht) (xC_tab ht) (v := .int (xwid t)) rfl fl_RX4_21 dT_dropFirst_24 ?_
      refine xR_aln 27 0 dT_dropFirst_27 rfl rfl ?_
      refine xR_getf 28 xcf3 2 (36 + t) (by decide) (xk_T ht) (xC_tab ht) (v := .ref (xa G t)) rfl fl_RX4_24 dT_dropFirst_28 ?_
      refine xR_ic 31 (0 : Int32) dT_dropFirst_31 (by decide) ?_
      refine xR_aln 32 0 dT_dropFirst_32 rfl rfl ?_
      refine xR_getf 33 xcf3 2 (36 + t) (by decide) (xk_T ht) (xC_tab ht) (v := .ref (xa G t)) rfl fl_RX4_24 dT_dropFirst_33 ?_
      refine xR_alen 36 t (xk_A ht) (xC_arr ht) dT_dropFirst_36 ?_
      refine xR_aln 37 0 dT_dropFirst_37 rfl rfl ?_
      refine xR_getf 38 xcf3 1 (36 + t) (by decide) (xk_T ht) (xC_tab ht) (v := .int (xwid t)) rfl fl_RX4_21 dT_dropFirst_38 ?_
      refine xR_isub 41 dT_dropFirst_41 ?_
      refine xR_copy 42 ml_RX4_31 t t (xk_A ht) (xk_A ht) (xC_arr ht) (xC_arr ht) ((xcpm m t t (xwid t) (0 : Int32) ((Int32.ofNat (xlen t)) - (xwid t))), z) (xW_copy ht) ⟨Nat.le_of_ble_eq_true rfl, Nat.le_of_ble_eq_true rfl⟩ dT_dropFirst_42 ?_
      refine xR_aln 45 0 dT_dropFirst_45 rfl rfl ?_
      refine xR_dup 46 dT_dropFirst_46 rfl ?_
      refine xR_getf 47 xcf3 3 (36 + t) (by decide) (xk_T ht) (xC_tab ht) (v := .int ((xcpm m t t (xwid t) (0 : Int32) ((Int32.ofNat (xlen t)) - (xwid t))).1 36 t)) rfl fl_RX4_28 dT_dropFirst_47 ?_
      refine xR_ic 50 (1 : Int32) dT_dropFirst_50 (by decide) ?_
      refine xR_isub 51 dT_dropFirst_51 ?_
      refine xR_putf 52 xcf3 3 (36 + t) (by decide) (xk_T ht) (xC_tab ht) rfl rfl rfl (Nat.le_of_ble_eq_true rfl) ((xset (xcpm m t t (xwid t) (0 : Int32) ((Int32.ofNat (xlen t)) - (xwid t))) 36 t (((xcpm m t t (xwid t) (0 : Int32) ((Int32.ofNat (xlen t)) - (xwid t))).1 36 t) - (1 : Int32))), z) (xW_used ht) fl_RX4_28 dT_dropFirst_52 ?_
      exact xR_vret 55 rfl rfl dT_dropFirst_55
theorem dT_dropLast_0 : decode (xb yyT_dropLast) 0 = .ok (.aload_n 0, 1) := by decide +kernel
theorem dT_dropLast_1 : decode (xb yyT_dropLast) 1 = .ok (.aload_n 0, 1) := by decide +kernel
theorem dT_dropLast_2 : decode (xb yyT_dropLast) 2 = .ok (.getfield 28, 3) := by decide +kernel
theorem dT_dropLast_5 : decode (xb yyT_dropLast) 5 = .ok (.iconst 1, 1) := by decide +kernel
theorem dT_dropLast_6 : decode (xb yyT_dropLast) 6 = .ok (.isub, 1) := by decide +kernel
theorem dT_dropLast_7 : decode (xb yyT_dropLast) 7 = .ok (.iconst 0, 1) := by decide +kernel
theorem dT_dropLast_8 : decode (xb yyT_dropLast) 8 = .ok (.invokestatic 9, 3) := by decide +kernel
theorem dT_dropLast_11 : decode (xb yyT_dropLast) 11 = .ok (.putfield 28, 3) := by decide +kernel
theorem dT_dropLast_14 : decode (xb yyT_dropLast) 14 = .ok (.return_, 1) := by decide +kernel
def fT_dropLast (t : Nat) (m : xM) : Option (xM) := some (xset m 36 t (xmax ((m.1 36 t) - (1 : Int32)) (0 : Int32)))
set_option maxRecDepth 100000 in
set_option maxHeartbeats 4000000 in
theorem kT_dropLast (G : xG) (t : Nat) (ht : t < 36) (z : xM) (m : xM) : ∀ a, fT_dropLast t m = some a → xCt G yyT_dropLast [.ref (xa G (36 + t))] (m, z) (none) (a, z) := by
  refine xR_ct (em := (emvc z)) rfl (Nat.le_of_ble_eq_true rfl) ?_
  show xR G yyT_dropLast _ 0 [(0, .ref (xa G (36 + t)))] [] _ _
  unfold fT_dropLast
  refine xR_aln 0 0 dT_dropLast_0 rfl rfl ?_
  refine xR_aln 1 0 dT_dropLast_1 rfl rfl ?_
  refine xR_getf 2 xcf3 3 (36 + t) (by decide) (xk_T ht) (xC_tab ht) (v := .int (m.1 36 t)) rfl fl_RX4_28 dT_dropLast_2 ?_
  refine xR_ic 5 (1 : Int32) dT_dropLast_5 (by decide) ?_
  refine xR_isub 6 dT_dropLast_6 ?_
  refine xR_ic 7 (0 : Int32) dT_dropLast_7 (by decide) ?_
  refine xR_mmax 8 ml_RX4_9 ⟨Nat.le_of_ble_eq_true rfl, Nat.le_of_ble_eq_true rfl⟩ dT_dropLast_8 ?_
  refine xR_putf 11 xcf3 3 (36 + t) (by decide) (xk_T ht) (xC_tab ht) rfl rfl rfl (Nat.le_of_ble_eq_true rfl) ((xset m 36 t (xmax ((m.1 36 t) - (1 : Int32)) (0 : Int32))), z) (xW_used ht) fl_RX4_28 dT_dropLast_11 ?_
  exact xR_vret 14 rfl rfl dT_dropLast_14
theorem dD_door_0 : decode (xb yyD_door) 0 = .ok (.iload_n 0, 1) := by decide +kernel
theorem dD_door_1 : decode (xb yyD_door) 1 = .ok (.iconst 4, 1) := by decide +kernel
theorem dD_door_2 : decode (xb yyD_door) 2 = .ok (.idiv, 1) := by decide +kernel
theorem dD_door_3 : decode (xb yyD_door) 3 = .ok (.bipush 6, 2) := by decide +kernel
theorem dD_door_5 : decode (xb yyD_door) 5 = .ok (.iadd, 1) := by decide +kernel
theorem dD_door_6 : decode (xb yyD_door) 6 = .ok (.iload_n 1, 1) := by decide +kernel
theorem dD_door_7 : decode (xb yyD_door) 7 = .ok (.isub, 1) := by decide +kernel
theorem dD_door_8 : decode (xb yyD_door) 8 = .ok (.iconst 0, 1) := by decide +kernel
theorem dD_door_9 : decode (xb yyD_door) 9 = .ok (.invokestatic 29, 3) := by decide +kernel
theorem dD_door_12 : decode (xb yyD_door) 12 = .ok (.ireturn, 1) := by decide +kernel
def fD_door  (v0 : Int32) (v1 : Int32) : Option (Int32) := some (xmax (((v0 / (4 : Int32)) + (6 : Int32)) - v1) (0 : Int32))
set_option maxRecDepth 100000 in
set_option maxHeartbeats 4000000 in
theorem kD_door (G : xG)   (S : xS)  (v0 : Int32) (v1 : Int32) : ∀ a, fD_door  v0 v1 = some a → xCt G yyD_door [.int v0, .int v1] S (some (.int a)) S := by
  refine xR_ct (em := (emi S)) rfl (Nat.le_of_ble_eq_true rfl) ?_
  show xR G yyD_door _ 0 [(0, .int v0), (1, .int v1)] [] _ _
  unfold fD_door
  refine xR_iln 0 0 dD_door_0 rfl rfl ?_
  refine xR_ic 1 (4 : Int32) dD_door_1 (by decide) ?_
  refine xR_idiv 2 dD_door_2 (by decide) ?_
  refine xR_bp 3 (6 : Int32) dD_door_3 (by decide) ?_
  refine xR_iadd 5 dD_door_5 ?_
  refine xR_iln 6 1 dD_door_6 rfl rfl ?_
  refine xR_isub 7 dD_door_7 ?_
  refine xR_ic 8 (0 : Int32) dD_door_8 (by decide) ?_
  refine xR_mmax 9 ml_RX7_29 ⟨Nat.le_of_ble_eq_true rfl, Nat.le_of_ble_eq_true rfl⟩ dD_door_9 ?_
  exact xR_iret 12 rfl rfl dD_door_12
theorem dD_stair_0 : decode (xb yyD_stair) 0 = .ok (.iload_n 0, 1) := by decide +kernel
theorem dD_stair_1 : decode (xb yyD_stair) 1 = .ok (.iconst 2, 1) := by decide +kernel
theorem dD_stair_2 : decode (xb yyD_stair) 2 = .ok (.if_icmp .ne 9, 3) := by decide +kernel
theorem dD_stair_5 : decode (xb yyD_stair) 5 = .ok (.iload_n 1, 1) := by decide +kernel
theorem dD_stair_6 : decode (xb yyD_stair) 6 = .ok (.iconst 3, 1) := by decide +kernel
theorem dD_stair_7 : decode (xb yyD_stair) 7 = .ok (.iadd, 1) := by decide +kernel
theorem dD_stair_8 : decode (xb yyD_stair) 8 = .ok (.goto 4, 3) := by decide +kernel
theorem dD_stair_11 : decode (xb yyD_stair) 11 = .ok (.iload_n 1, 1) := by decide +kernel
theorem dD_stair_12 : decode (xb yyD_stair) 12 = .ok (.ireturn, 1) := by decide +kernel
def fD_stair  (v0 : Int32) (v1 : Int32) : Option (Int32) := (if v0 = (2 : Int32) then some (v1 + (3 : Int32)) else some v1)
set_option maxRecDepth 100000 in
set_option maxHeartbeats 4000000 in
theorem kD_stair (G : xG)   (S : xS)  (v0 : Int32) (v1 : Int32) : ∀ a, fD_stair  v0 v1 = some a → xCt G yyD_stair [.int v0, .int v1] S (some (.int a)) S := by
  refine xR_ct (em := (emi S)) rfl (Nat.le_of_ble_eq_true rfl) ?_
  show xR G yyD_stair _ 0 [(0, .int v0), (1, .int v1)] [] _ _
  unfold fD_stair
  refine xR_iln 0 0 dD_stair_0 rfl rfl ?_
  refine xR_ic 1 (2 : Int32) dD_stair_1 (by decide) ?_
  refine xR_icne 2 11 dD_stair_2 (by decide) ?_ ?_
  · refine xR_iln 11 1 dD_stair_11 rfl rfl ?_
    exact xR_iret 12 rfl rfl dD_stair_12
  · refine xR_iln 5 1 dD_stair_5 rfl rfl ?_
    refine xR_ic 6 (3 : Int32) dD_stair_6 (by decide) ?_
    refine xR_iadd 7 dD_stair_7 ?_
    refine xR_goto 8 12 dD_stair_8 (by decide) ?_
    exact xR_iret 12 rfl rfl dD_stair_12
theorem dD_sill_0 : decode (xb yyD_sill) 0 = .ok (.iload_n 0, 1) := by decide +kernel
theorem dD_sill_1 : decode (xb yyD_sill) 1 = .ok (.iconst 3, 1) := by decide +kernel
theorem dD_sill_2 : decode (xb yyD_sill) 2 = .ok (.if_icmp .ne 9, 3) := by decide +kernel
theorem dD_sill_5 : decode (xb yyD_sill) 5 = .ok (.iconst 2, 1) := by decide +kernel
theorem dD_sill_6 : decode (xb yyD_sill) 6 = .ok (.iload_n 1, 1) := by decide +kernel
theorem dD_sill_7 : decode (xb yyD_sill) 7 = .ok (.imul, 1) := by decide +kernel
theorem dD_sill_8 : decode (xb yyD_sill) 8 = .ok (.goto 4, 3) := by decide +kernel
theorem dD_sill_11 : decode (xb yyD_sill) 11 = .ok (.iload_n 1, 1) := by decide +kernel
theorem dD_sill_12 : decode (xb yyD_sill) 12 = .ok (.ireturn, 1) := by decide +kernel
def fD_sill  (v0 : Int32) (v1 : Int32) : Option (Int32) := (if v0 = (3 : Int32) then some ((2 : Int32) * v1) else some v1)
set_option maxRecDepth 100000 in
set_option maxHeartbeats 4000000 in
theorem kD_sill (G : xG)   (S : xS)  (v0 : Int32) (v1 : Int32) : ∀ a, fD_sill  v0 v1 = some a → xCt G yyD_sill [.int v0, .int v1] S (some (.int a)) S := by
  refine xR_ct (em := (emi S)) rfl (Nat.le_of_ble_eq_true rfl) ?_
  show xR G yyD_sill _ 0 [(0, .int v0), (1, .int v1)] [] _ _
  unfold fD_sill
  refine xR_iln 0 0 dD_sill_0 rfl rfl ?_
  refine xR_ic 1 (3 : Int32) dD_sill_1 (by decide) ?_
  refine xR_icne 2 11 dD_sill_2 (by decide) ?_ ?_
  · refine xR_iln 11 1 dD_sill_11 rfl rfl ?_
    exact xR_iret 12 rfl rfl dD_sill_12
  · refine xR_ic 5 (2 : Int32) dD_sill_5 (by decide) ?_
    refine xR_iln 6 1 dD_sill_6 rfl rfl ?_
    refine xR_imul 7 dD_sill_7 ?_
    refine xR_goto 8 12 dD_sill_8 (by decide) ?_
    exact xR_iret 12 rfl rfl dD_sill_12
theorem dD_attic_0 : decode (xb yyD_attic) 0 = .ok (.iload_n 0, 1) := by decide +kernel
theorem dD_attic_1 : decode (xb yyD_attic) 1 = .ok (.iconst 2, 1) := by decide +kernel
theorem dD_attic_2 : decode (xb yyD_attic) 2 = .ok (.if_icmp .lt 9, 3) := by decide +kernel
theorem dD_attic_5 : decode (xb yyD_attic) 5 = .ok (.iload_n 1, 1) := by decide +kernel
theorem dD_attic_6 : decode (xb yyD_attic) 6 = .ok (.iconst 5, 1) := by decide +kernel
theorem dD_attic_7 : decode (xb yyD_attic) 7 = .ok (.iadd, 1) := by decide +kernel
theorem dD_attic_8 : decode (xb yyD_attic) 8 = .ok (.goto 4, 3) := by decide +kernel
theorem dD_attic_11 : decode (xb yyD_attic) 11 = .ok (.iload_n 1, 1) := by decide +kernel
theorem dD_attic_12 : decode (xb yyD_attic) 12 = .ok (.ireturn, 1) := by decide +kernel
def fD_attic  (v0 : Int32) (v1 : Int32) : Option (Int32) := (if v0 < (2 : Int32) then some v1 else some (v1 + (5 : Int32)))
set_option maxRecDepth 100000 in
set_option maxHeartbeats 4000000 in
theorem kD_attic (G : xG)   (S : xS)  (v0 : Int32) (v1 : Int32) : ∀ a, fD_attic  v0 v1 = some a → xCt G yyD_attic [.int v0, .int v1] S (some (.int a)) S := by
  refine xR_ct (em := (emi S)) rfl (Nat.le_of_ble_eq_true rfl) ?_
  show xR G yyD_attic _ 0 [(0, .int v0), (1, .int v1)] [] _ _
  unfold fD_attic
  refine xR_iln 0 0 dD_attic_0 rfl rfl ?_
  refine xR_ic 1 (2 : Int32) dD_attic_1 (by decide) ?_
  refine xR_iclt 2 11 dD_attic_2 (by decide) ?_ ?_
  · refine xR_iln 11 1 dD_attic_11 rfl rfl ?_
    exact xR_iret 12 rfl rfl dD_attic_12
  · refine xR_iln 5 1 dD_attic_5 rfl rfl ?_
    refine xR_ic 6 (5 : Int32) dD_attic_6 (by decide) ?_
    refine xR_iadd 7 dD_attic_7 ?_
    refine xR_goto 8 12 dD_attic_8 (by decide) ?_
    exact xR_iret 12 rfl rfl dD_attic_12
theorem dD_kitchen_0 : decode (xb yyD_kitchen) 0 = .ok (.iload_n 0, 1) := by decide +kernel
theorem dD_kitchen_1 : decode (xb yyD_kitchen) 1 = .ok (.ifCond .ne 9, 3) := by decide +kernel
theorem dD_kitchen_4 : decode (xb yyD_kitchen) 4 = .ok (.iload_n 1, 1) := by decide +kernel
theorem dD_kitchen_5 : decode (xb yyD_kitchen) 5 = .ok (.iconst 4, 1) := by decide +kernel
theorem dD_kitchen_6 : decode (xb yyD_kitchen) 6 = .ok (.iadd, 1) := by decide +kernel
theorem dD_kitchen_7 : decode (xb yyD_kitchen) 7 = .ok (.goto 4, 3) := by decide +kernel
theorem dD_kitchen_10 : decode (xb yyD_kitchen) 10 = .ok (.iload_n 1, 1) := by decide +kernel
theorem dD_kitchen_11 : decode (xb yyD_kitchen) 11 = .ok (.ireturn, 1) := by decide +kernel
def fD_kitchen  (v0 : Int32) (v1 : Int32) : Option (Int32) := (if v0 = 0 then some (v1 + (4 : Int32)) else some v1)
set_option maxRecDepth 100000 in
set_option maxHeartbeats 4000000 in
theorem kD_kitchen (G : xG)   (S : xS)  (v0 : Int32) (v1 : Int32) : ∀ a, fD_kitchen  v0 v1 = some a → xCt G yyD_kitchen [.int v0, .int v1] S (some (.int a)) S := by
  refine xR_ct (em := (emi S)) rfl (Nat.le_of_ble_eq_true rfl) ?_
  show xR G yyD_kitchen _ 0 [(0, .int v0), (1, .int v1)] [] _ _
  unfold fD_kitchen
  refine xR_iln 0 0 dD_kitchen_0 rfl rfl ?_
  refine xR_ifne 1 10 dD_kitchen_1 (by decide) ?_ ?_
  · refine xR_iln 10 1 dD_kitchen_10 rfl rfl ?_
    exact xR_iret 11 rfl rfl dD_kitchen_11
  · refine xR_iln 4 1 dD_kitchen_4 rfl rfl ?_
    refine xR_ic 5 (4 : Int32) dD_kitchen_5 (by decide) ?_
    refine xR_iadd 6 dD_kitchen_6 ?_
    refine xR_goto 7 11 dD_kitchen_7 (by decide) ?_
    exact xR_iret 11 rfl rfl dD_kitchen_11
theorem dD_marble_0 : decode (xb yyD_marble) 0 = .ok (.iload_n 0, 1) := by decide +kernel
theorem dD_marble_1 : decode (xb yyD_marble) 1 = .ok (.iconst 3, 1) := by decide +kernel
theorem dD_marble_2 : decode (xb yyD_marble) 2 = .ok (.idiv, 1) := by decide +kernel
theorem dD_marble_3 : decode (xb yyD_marble) 3 = .ok (.ireturn, 1) := by decide +kernel
def fD_marble  (v0 : Int32) : Option (Int32) := some (v0 / (3 : Int32))
set_option maxRecDepth 100000 in
set_option maxHeartbeats 4000000 in
theorem kD_marble (G : xG)   (S : xS)  (v0 : Int32) : ∀ a, fD_marble  v0 = some a → xCt G yyD_marble [.int v0] S (some (.int a)) S := by
  refine xR_ct (em := (emi S)) rfl (Nat.le_of_ble_eq_true rfl) ?_
  show xR G yyD_marble _ 0 [(0, .int v0)] [] _ _
  unfold fD_marble
  refine xR_iln 0 0 dD_marble_0 rfl rfl ?_
  refine xR_ic 1 (3 : Int32) dD_marble_1 (by decide) ?_
  refine xR_idiv 2 dD_marble_2 (by decide) ?_
  exact xR_iret 3 rfl rfl dD_marble_3
theorem dD_soundBy_0 : decode (xb yyD_soundBy) 0 = .ok (.iload_n 0, 1) := by decide +kernel
theorem dD_soundBy_1 : decode (xb yyD_soundBy) 1 = .ok (.tableswitch 92 1 5 #[35, 45, 55, 65, 79], 35) := by decide +kernel
theorem dD_soundBy_36 : decode (xb yyD_soundBy) 36 = .ok (.iload_n 1, 1) := by decide +kernel
theorem dD_soundBy_37 : decode (xb yyD_soundBy) 37 = .ok (.iload_n 2, 1) := by decide +kernel
theorem dD_soundBy_38 : decode (xb yyD_soundBy) 38 = .ok (.iload_n 3, 1) := by decide +kernel
theorem dD_soundBy_39 : decode (xb yyD_soundBy) 39 = .ok (.invokestatic 7, 3) := by decide +kernel
theorem dD_soundBy_42 : decode (xb yyD_soundBy) 42 = .ok (.invokestatic 13, 3) := by decide +kernel
theorem dD_soundBy_45 : decode (xb yyD_soundBy) 45 = .ok (.ireturn, 1) := by decide +kernel
theorem dD_soundBy_46 : decode (xb yyD_soundBy) 46 = .ok (.iload_n 1, 1) := by decide +kernel
theorem dD_soundBy_47 : decode (xb yyD_soundBy) 47 = .ok (.iload_n 2, 1) := by decide +kernel
theorem dD_soundBy_48 : decode (xb yyD_soundBy) 48 = .ok (.iload_n 3, 1) := by decide +kernel
theorem dD_soundBy_49 : decode (xb yyD_soundBy) 49 = .ok (.invokestatic 7, 3) := by decide +kernel
theorem dD_soundBy_52 : decode (xb yyD_soundBy) 52 = .ok (.invokestatic 16, 3) := by decide +kernel
theorem dD_soundBy_55 : decode (xb yyD_soundBy) 55 = .ok (.ireturn, 1) := by decide +kernel
theorem dD_soundBy_56 : decode (xb yyD_soundBy) 56 = .ok (.iload_n 1, 1) := by decide +kernel
theorem dD_soundBy_57 : decode (xb yyD_soundBy) 57 = .ok (.iload_n 2, 1) := by decide +kernel
theorem dD_soundBy_58 : decode (xb yyD_soundBy) 58 = .ok (.iload_n 3, 1) := by decide +kernel
theorem dD_soundBy_59 : decode (xb yyD_soundBy) 59 = .ok (.invokestatic 7, 3) := by decide +kernel
theorem dD_soundBy_62 : decode (xb yyD_soundBy) 62 = .ok (.invokestatic 19, 3) := by decide +kernel
theorem dD_soundBy_65 : decode (xb yyD_soundBy) 65 = .ok (.ireturn, 1) := by decide +kernel
theorem dD_soundBy_66 : decode (xb yyD_soundBy) 66 = .ok (.iload_n 1, 1) := by decide +kernel
theorem dD_soundBy_67 : decode (xb yyD_soundBy) 67 = .ok (.iload_n 1, 1) := by decide +kernel
theorem dD_soundBy_68 : decode (xb yyD_soundBy) 68 = .ok (.iload_n 2, 1) := by decide +kernel
theorem dD_soundBy_69 : decode (xb yyD_soundBy) 69 = .ok (.iconst 0, 1) := by decide +kernel
theorem dD_soundBy_70 : decode (xb yyD_soundBy) 70 = .ok (.invokestatic 7, 3) := by decide +kernel
theorem dD_soundBy_73 : decode (xb yyD_soundBy) 73 = .ok (.invokestatic 13, 3) := by decide +kernel
theorem dD_soundBy_76 : decode (xb yyD_soundBy) 76 = .ok (.invokestatic 22, 3) := by decide +kernel
theorem dD_soundBy_79 : decode (xb yyD_soundBy) 79 = .ok (.ireturn, 1) := by decide +kernel
theorem dD_soundBy_80 : decode (xb yyD_soundBy) 80 = .ok (.iload_n 1, 1) := by decide +kernel
theorem dD_soundBy_81 : decode (xb yyD_soundBy) 81 = .ok (.iload_n 2, 1) := by decide +kernel
theorem dD_soundBy_82 : decode (xb yyD_soundBy) 82 = .ok (.iload_n 3, 1) := by decide +kernel
theorem dD_soundBy_83 : decode (xb yyD_soundBy) 83 = .ok (.invokestatic 7, 3) := by decide +kernel
theorem dD_soundBy_86 : decode (xb yyD_soundBy) 86 = .ok (.invokestatic 16, 3) := by decide +kernel
theorem dD_soundBy_89 : decode (xb yyD_soundBy) 89 = .ok (.invokestatic 25, 3) := by decide +kernel
theorem dD_soundBy_92 : decode (xb yyD_soundBy) 92 = .ok (.ireturn, 1) := by decide +kernel
theorem dD_soundBy_93 : decode (xb yyD_soundBy) 93 = .ok (.iload_n 2, 1) := by decide +kernel
theorem dD_soundBy_94 : decode (xb yyD_soundBy) 94 = .ok (.iload_n 3, 1) := by decide +kernel
theorem dD_soundBy_95 : decode (xb yyD_soundBy) 95 = .ok (.invokestatic 7, 3) := by decide +kernel
theorem dD_soundBy_98 : decode (xb yyD_soundBy) 98 = .ok (.ireturn, 1) := by decide +kernel
def fD_soundBy  (v0 : Int32) (v1 : Int32) (v2 : Int32) (v3 : Int32) : Option (Int32) := (if v0 = (1 : Int32) then (fD_door v2 v3).bind fun r39 => (fD_stair v1 r39).bind fun r42 => some r42 else (if v0 = (2 : Int32) then (fD_door v2 v3).bind fun r49 => (fD_sill v1 r49).bind fun r52 => some r52 else (if v0 = (3 : Int32) then (fD_door v2 v3).bind fun r59 => (fD_attic v1 r59).bind fun r62 => some r62 else (if v0 = (4 : Int32) then (fD_door v2 (0 : Int32)).bind fun r70 => (fD_stair v1 r70).bind fun r73 => (fD_kitchen v1 r73).bind fun r76 => some r76 else (if v0 = (5 : Int32) then (fD_door v2 v3).bind fun r83 => (fD_sill v1 r83).bind fun r86 => (fD_marble r86).bind fun r89 => some r89 else (fD_door v2 v3).bind fun r95 => some r95)))))
set_option maxRecDepth 100000 in
set_option maxHeartbeats 4000000 in
theorem kD_soundBy (G : xG)   (S : xS)  (v0 : Int32) (v1 : Int32) (v2 : Int32) (v3 : Int32) : ∀ a, fD_soundBy  v0 v1 v2 v3 = some a → xCt G yyD_soundBy [.int v0, .int v1, .int v2, .int v3] S (some (.int a)) S := by
  refine xR_ct (em := (emi S)) rfl (Nat.le_of_ble_eq_true rfl) ?_
  show xR G yyD_soundBy _ 0 [(0, .int v0), (1, .int v1), (2, .int v2), (3, .int v3)] [] _ _
  unfold fD_soundBy
  refine xR_iln 0 0 dD_soundBy_0 rfl rfl ?_
  refine xR_tsw 1 36 (1 : Int32) dD_soundBy_1 (by decide) (by decide) rfl (by decide) ?_ (fun hs1_0 => ?_)
  · refine xR_iln 36 1 dD_soundBy_36 rfl rfl ?_
    refine xR_iln 37 2 dD_soundBy_37 rfl rfl ?_
    refine xR_iln 38 3 dD_soundBy_38 rfl rfl ?_
    refine xR_callSi 39 cs_D_door ml_RX7_7 ⟨Nat.le_of_ble_eq_true rfl, Nat.le_of_ble_eq_true rfl⟩ [.int v2, .int v3] rfl rfl (Nat.le_of_ble_eq_true rfl) dD_soundBy_39 (kD_door G S v2 v3) (fun r39 => ?_)
    refine xR_callSi 42 cs_D_stair ml_RX7_13 ⟨Nat.le_of_ble_eq_true rfl, Nat.le_of_ble_eq_true rfl⟩ [.int v1, .int r39] rfl rfl (Nat.le_of_ble_eq_true rfl) dD_soundBy_42 (kD_stair G S v1 r39) (fun r42 => ?_)
    exact xR_iret 45 rfl rfl dD_soundBy_45
  refine xR_tsw 1 46 (2 : Int32) dD_soundBy_1 (by decide) (by decide) rfl (by decide) ?_ (fun hs1_1 => ?_)
  · refine xR_iln 46 1 dD_soundBy_46 rfl rfl ?_
    refine xR_iln 47 2 dD_soundBy_47 rfl rfl ?_
    refine xR_iln 48 3 dD_soundBy_48 rfl rfl ?_
    refine xR_callSi 49 cs_D_door ml_RX7_7 ⟨Nat.le_of_ble_eq_true rfl, Nat.le_of_ble_eq_true rfl⟩ [.int v2, .int v3] rfl rfl (Nat.le_of_ble_eq_true rfl) dD_soundBy_49 (kD_door G S v2 v3) (fun r49 => ?_)
    refine xR_callSi 52 cs_D_sill ml_RX7_16 ⟨Nat.le_of_ble_eq_true rfl, Nat.le_of_ble_eq_true rfl⟩ [.int v1, .int r49] rfl rfl (Nat.le_of_ble_eq_true rfl) dD_soundBy_52 (kD_sill G S v1 r49) (fun r52 => ?_)
    exact xR_iret 55 rfl rfl dD_soundBy_55
  refine xR_tsw 1 56 (3 : Int32) dD_soundBy_1 (by decide) (by decide) rfl (by decide) ?_ (fun hs1_2 => ?_)
  · refine xR_iln 56 1 dD_soundBy_56 rfl rfl ?_
    refine xR_iln 57 2 dD_soundBy_57 rfl rfl ?_
    refine xR_iln 58 3 dD_soundBy_58 rfl rfl ?_
    refine xR_callSi 59 cs_D_door ml_RX7_7 ⟨Nat.le_of_ble_eq_true rfl, Nat.le_of_ble_eq_true rfl⟩ [.int v2, .int v3] rfl rfl (Nat.le_of_ble_eq_true rfl) dD_soundBy_59 (kD_door G S v2 v3) (fun r59 => ?_)
    refine xR_callSi 62 cs_D_attic ml_RX7_19 ⟨Nat.le_of_ble_eq_true rfl, Nat.le_of_ble_eq_true rfl⟩ [.int v1, .int r59] rfl rfl (Nat.le_of_ble_eq_true rfl) dD_soundBy_62 (kD_attic G S v1 r59) (fun r62 => ?_)
    exact xR_iret 65 rfl rfl dD_soundBy_65
  refine xR_tsw 1 66 (4 : Int32) dD_soundBy_1 (by decide) (by decide) rfl (by decide) ?_ (fun hs1_3 => ?_)
  · refine xR_iln 66 1 dD_soundBy_66 rfl rfl ?_
    refine xR_iln 67 1 dD_soundBy_67 rfl rfl ?_
    refine xR_iln 68 2 dD_soundBy_68 rfl rfl ?_
    refine xR_ic 69 (0 : Int32) dD_soundBy_69 (by decide) ?_
    refine xR_callSi 70 cs_D_door ml_RX7_7 ⟨Nat.le_of_ble_eq_true rfl, Nat.le_of_ble_eq_true rfl⟩ [.int v2, .int (0 : Int32)] rfl rfl (Nat.le_of_ble_eq_true rfl) dD_soundBy_70 (kD_door G S v2 (0 : Int32)) (fun r70 => ?_)
    refine xR_callSi 73 cs_D_stair ml_RX7_13 ⟨Nat.le_of_ble_eq_true rfl, Nat.le_of_ble_eq_true rfl⟩ [.int v1, .int r70] rfl rfl (Nat.le_of_ble_eq_true rfl) dD_soundBy_73 (kD_stair G S v1 r70) (fun r73 => ?_)
    refine xR_callSi 76 cs_D_kitchen ml_RX7_22 ⟨Nat.le_of_ble_eq_true rfl, Nat.le_of_ble_eq_true rfl⟩ [.int v1, .int r73] rfl rfl (Nat.le_of_ble_eq_true rfl) dD_soundBy_76 (kD_kitchen G S v1 r73) (fun r76 => ?_)
    exact xR_iret 79 rfl rfl dD_soundBy_79
  refine xR_tsw 1 80 (5 : Int32) dD_soundBy_1 (by decide) (by decide) rfl (by decide) ?_ (fun hs1_4 => ?_)
  · refine xR_iln 80 1 dD_soundBy_80 rfl rfl ?_
    refine xR_iln 81 2 dD_soundBy_81 rfl rfl ?_
    refine xR_iln 82 3 dD_soundBy_82 rfl rfl ?_
    refine xR_callSi 83 cs_D_door ml_RX7_7 ⟨Nat.le_of_ble_eq_true rfl, Nat.le_of_ble_eq_true rfl⟩ [.int v2, .int v3] rfl rfl (Nat.le_of_ble_eq_true rfl) dD_soundBy_83 (kD_door G S v2 v3) (fun r83 => ?_)
    refine xR_callSi 86 cs_D_sill ml_RX7_16 ⟨Nat.le_of_ble_eq_true rfl, Nat.le_of_ble_eq_true rfl⟩ [.int v1, .int r83] rfl rfl (Nat.le_of_ble_eq_true rfl) dD_soundBy_86 (kD_sill G S v1 r83) (fun r86 => ?_)
    refine xR_callSi 89 cs_D_marble ml_RX7_25 ⟨Nat.le_of_ble_eq_true rfl, Nat.le_of_ble_eq_true rfl⟩ [.int r86] rfl rfl (Nat.le_of_ble_eq_true rfl) dD_soundBy_89 (kD_marble G S r86) (fun r89 => ?_)
    exact xR_iret 92 rfl rfl dD_soundBy_92
  refine xR_tso 1 93 dD_soundBy_1 (by have e0 := lv_neT hs1_0 (a := 1) rfl; have e1 := lv_neT hs1_1 (a := 2) rfl; have e2 := lv_neT hs1_2 (a := 3) rfl; have e3 := lv_neT hs1_3 (a := 4) rfl; have e4 := lv_neT hs1_4 (a := 5) rfl; omega) (by decide) ?_
  refine xR_iln 93 2 dD_soundBy_93 rfl rfl ?_
  refine xR_iln 94 3 dD_soundBy_94 rfl rfl ?_
  refine xR_callSi 95 cs_D_door ml_RX7_7 ⟨Nat.le_of_ble_eq_true rfl, Nat.le_of_ble_eq_true rfl⟩ [.int v2, .int v3] rfl rfl (Nat.le_of_ble_eq_true rfl) dD_soundBy_95 (kD_door G S v2 v3) (fun r95 => ?_)
  exact xR_iret 98 rfl rfl dD_soundBy_98
theorem dS_lent_0 : decode (xb yyS_lent) 0 = .ok (.iload_n 0, 1) := by decide +kernel
theorem dS_lent_1 : decode (xb yyS_lent) 1 = .ok (.iconst 3, 1) := by decide +kernel
theorem dS_lent_2 : decode (xb yyS_lent) 2 = .ok (.iload_n 1, 1) := by decide +kernel
theorem dS_lent_3 : decode (xb yyS_lent) 3 = .ok (.iconst 1, 1) := by decide +kernel
theorem dS_lent_4 : decode (xb yyS_lent) 4 = .ok (.isub, 1) := by decide +kernel
theorem dS_lent_5 : decode (xb yyS_lent) 5 = .ok (.iconst 0, 1) := by decide +kernel
theorem dS_lent_6 : decode (xb yyS_lent) 6 = .ok (.invokestatic 26, 3) := by decide +kernel
theorem dS_lent_9 : decode (xb yyS_lent) 9 = .ok (.imul, 1) := by decide +kernel
theorem dS_lent_10 : decode (xb yyS_lent) 10 = .ok (.isub, 1) := by decide +kernel
theorem dS_lent_11 : decode (xb yyS_lent) 11 = .ok (.iconst 0, 1) := by decide +kernel
theorem dS_lent_12 : decode (xb yyS_lent) 12 = .ok (.invokestatic 26, 3) := by decide +kernel
theorem dS_lent_15 : decode (xb yyS_lent) 15 = .ok (.ireturn, 1) := by decide +kernel
def fS_lent  (v0 : Int32) (v1 : Int32) : Option (Int32) := some (xmax (v0 - ((3 : Int32) * (xmax (v1 - (1 : Int32)) (0 : Int32)))) (0 : Int32))
set_option maxRecDepth 100000 in
set_option maxHeartbeats 4000000 in
theorem kS_lent (G : xG)   (S : xS)  (v0 : Int32) (v1 : Int32) : ∀ a, fS_lent  v0 v1 = some a → xCt G yyS_lent [.int v0, .int v1] S (some (.int a)) S := by
  refine xR_ct (em := (emi S)) rfl (Nat.le_of_ble_eq_true rfl) ?_
  show xR G yyS_lent _ 0 [(0, .int v0), (1, .int v1)] [] _ _
  unfold fS_lent
  refine xR_iln 0 0 dS_lent_0 rfl rfl ?_
  refine xR_ic 1 (3 : Int32) dS_lent_1 (by decide) ?_
  refine xR_iln 2 1 dS_lent_2 rfl rfl ?_
  refine xR_ic 3 (1 : Int32) dS_lent_3 (by decide) ?_
  refine xR_isub 4 dS_lent_4 ?_
  refine xR_ic 5 (0 : Int32) dS_lent_5 (by decide) ?_
  refine xR_mmax 6 ml_RX3_26 ⟨Nat.le_of_ble_eq_true rfl, Nat.le_of_ble_eq_true rfl⟩ dS_lent_6 ?_
  refine xR_imul 9 dS_lent_9 ?_
  refine xR_isub 10 dS_lent_10 ?_
  refine xR_ic 11 (0 : Int32) dS_lent_11 (by decide) ?_
  refine xR_mmax 12 ml_RX3_26 ⟨Nat.le_of_ble_eq_true rfl, Nat.le_of_ble_eq_true rfl⟩ dS_lent_12 ?_
  exact xR_iret 15 rfl rfl dS_lent_15
theorem dS_cello_0 : decode (xb yyS_cello) 0 = .ok (.iload_n 0, 1) := by decide +kernel
theorem dS_cello_1 : decode (xb yyS_cello) 1 = .ok (.ifCond .ne 9, 3) := by decide +kernel
theorem dS_cello_4 : decode (xb yyS_cello) 4 = .ok (.iconst 2, 1) := by decide +kernel
theorem dS_cello_5 : decode (xb yyS_cello) 5 = .ok (.iload_n 1, 1) := by decide +kernel
theorem dS_cello_6 : decode (xb yyS_cello) 6 = .ok (.imul, 1) := by decide +kernel
theorem dS_cello_7 : decode (xb yyS_cello) 7 = .ok (.goto 4, 3) := by decide +kernel
theorem dS_cello_10 : decode (xb yyS_cello) 10 = .ok (.iload_n 1, 1) := by decide +kernel
theorem dS_cello_11 : decode (xb yyS_cello) 11 = .ok (.ireturn, 1) := by decide +kernel
def fS_cello  (v0 : Int32) (v1 : Int32) : Option (Int32) := (if v0 = 0 then some ((2 : Int32) * v1) else some v1)
set_option maxRecDepth 100000 in
set_option maxHeartbeats 4000000 in
theorem kS_cello (G : xG)   (S : xS)  (v0 : Int32) (v1 : Int32) : ∀ a, fS_cello  v0 v1 = some a → xCt G yyS_cello [.int v0, .int v1] S (some (.int a)) S := by
  refine xR_ct (em := (emi S)) rfl (Nat.le_of_ble_eq_true rfl) ?_
  show xR G yyS_cello _ 0 [(0, .int v0), (1, .int v1)] [] _ _
  unfold fS_cello
  refine xR_iln 0 0 dS_cello_0 rfl rfl ?_
  refine xR_ifne 1 10 dS_cello_1 (by decide) ?_ ?_
  · refine xR_iln 10 1 dS_cello_10 rfl rfl ?_
    exact xR_iret 11 rfl rfl dS_cello_11
  · refine xR_ic 4 (2 : Int32) dS_cello_4 (by decide) ?_
    refine xR_iln 5 1 dS_cello_5 rfl rfl ?_
    refine xR_imul 6 dS_cello_6 ?_
    refine xR_goto 7 11 dS_cello_7 (by decide) ?_
    exact xR_iret 11 rfl rfl dS_cello_11
theorem dS_tenement_0 : decode (xb yyS_tenement) 0 = .ok (.iload_n 1, 1) := by decide +kernel
theorem dS_tenement_1 : decode (xb yyS_tenement) 1 = .ok (.iconst 3, 1) := by decide +kernel
theorem dS_tenement_2 : decode (xb yyS_tenement) 2 = .ok (.if_icmp .lt 7, 3) := by decide +kernel
theorem dS_tenement_5 : decode (xb yyS_tenement) 5 = .ok (.iconst 0, 1) := by decide +kernel
theorem dS_tenement_6 : decode (xb yyS_tenement) 6 = .ok (.goto 4, 3) := by decide +kernel
theorem dS_tenement_9 : decode (xb yyS_tenement) 9 = .ok (.iload_n 0, 1) := by decide +kernel
theorem dS_tenement_10 : decode (xb yyS_tenement) 10 = .ok (.ireturn, 1) := by decide +kernel
def fS_tenement  (v0 : Int32) (v1 : Int32) : Option (Int32) := (if v1 < (3 : Int32) then some v0 else some (0 : Int32))
set_option maxRecDepth 100000 in
set_option maxHeartbeats 4000000 in
theorem kS_tenement (G : xG)   (S : xS)  (v0 : Int32) (v1 : Int32) : ∀ a, fS_tenement  v0 v1 = some a → xCt G yyS_tenement [.int v0, .int v1] S (some (.int a)) S := by
  refine xR_ct (em := (emi S)) rfl (Nat.le_of_ble_eq_true rfl) ?_
  show xR G yyS_tenement _ 0 [(0, .int v0), (1, .int v1)] [] _ _
  unfold fS_tenement
  refine xR_iln 0 1 dS_tenement_0 rfl rfl ?_
  refine xR_ic 1 (3 : Int32) dS_tenement_1 (by decide) ?_
  refine xR_iclt 2 9 dS_tenement_2 (by decide) ?_ ?_
  · refine xR_iln 9 0 dS_tenement_9 rfl rfl ?_
    exact xR_iret 10 rfl rfl dS_tenement_10
  · refine xR_ic 5 (0 : Int32) dS_tenement_5 (by decide) ?_
    refine xR_goto 6 10 dS_tenement_6 (by decide) ?_
    exact xR_iret 10 rfl rfl dS_tenement_10
theorem dS_squeak_0 : decode (xb yyS_squeak) 0 = .ok (.iload_n 0, 1) := by decide +kernel
theorem dS_squeak_1 : decode (xb yyS_squeak) 1 = .ok (.iconst 3, 1) := by decide +kernel
theorem dS_squeak_2 : decode (xb yyS_squeak) 2 = .ok (.if_icmp .ne 9, 3) := by decide +kernel
theorem dS_squeak_5 : decode (xb yyS_squeak) 5 = .ok (.iload_n 1, 1) := by decide +kernel
theorem dS_squeak_6 : decode (xb yyS_squeak) 6 = .ok (.iload_n 2, 1) := by decide +kernel
theorem dS_squeak_7 : decode (xb yyS_squeak) 7 = .ok (.iadd, 1) := by decide +kernel
theorem dS_squeak_8 : decode (xb yyS_squeak) 8 = .ok (.goto 8, 3) := by decide +kernel
theorem dS_squeak_11 : decode (xb yyS_squeak) 11 = .ok (.iload_n 1, 1) := by decide +kernel
theorem dS_squeak_12 : decode (xb yyS_squeak) 12 = .ok (.iconst 1, 1) := by decide +kernel
theorem dS_squeak_13 : decode (xb yyS_squeak) 13 = .ok (.iadd, 1) := by decide +kernel
theorem dS_squeak_14 : decode (xb yyS_squeak) 14 = .ok (.iconst 2, 1) := by decide +kernel
theorem dS_squeak_15 : decode (xb yyS_squeak) 15 = .ok (.idiv, 1) := by decide +kernel
theorem dS_squeak_16 : decode (xb yyS_squeak) 16 = .ok (.ireturn, 1) := by decide +kernel
def fS_squeak  (v0 : Int32) (v1 : Int32) (v2 : Int32) : Option (Int32) := (if v0 = (3 : Int32) then some (v1 + v2) else some ((v1 + (1 : Int32)) / (2 : Int32)))
set_option maxRecDepth 100000 in
set_option maxHeartbeats 4000000 in
theorem kS_squeak (G : xG)   (S : xS)  (v0 : Int32) (v1 : Int32) (v2 : Int32) : ∀ a, fS_squeak  v0 v1 v2 = some a → xCt G yyS_squeak [.int v0, .int v1, .int v2] S (some (.int a)) S := by
  refine xR_ct (em := (emi S)) rfl (Nat.le_of_ble_eq_true rfl) ?_
  show xR G yyS_squeak _ 0 [(0, .int v0), (1, .int v1), (2, .int v2)] [] _ _
  unfold fS_squeak
  refine xR_iln 0 0 dS_squeak_0 rfl rfl ?_
  refine xR_ic 1 (3 : Int32) dS_squeak_1 (by decide) ?_
  refine xR_icne 2 11 dS_squeak_2 (by decide) ?_ ?_
  · refine xR_iln 11 1 dS_squeak_11 rfl rfl ?_
    refine xR_ic 12 (1 : Int32) dS_squeak_12 (by decide) ?_
    refine xR_iadd 13 dS_squeak_13 ?_
    refine xR_ic 14 (2 : Int32) dS_squeak_14 (by decide) ?_
    refine xR_idiv 15 dS_squeak_15 (by decide) ?_
    exact xR_iret 16 rfl rfl dS_squeak_16
  · refine xR_iln 5 1 dS_squeak_5 rfl rfl ?_
    refine xR_iln 6 2 dS_squeak_6 rfl rfl ?_
    refine xR_iadd 7 dS_squeak_7 ?_
    refine xR_goto 8 16 dS_squeak_8 (by decide) ?_
    exact xR_iret 16 rfl rfl dS_squeak_16
theorem dS_bass_0 : decode (xb yyS_bass) 0 = .ok (.iload_n 0, 1) := by decide +kernel
theorem dS_bass_1 : decode (xb yyS_bass) 1 = .ok (.iconst 1, 1) := by decide +kernel
theorem dS_bass_2 : decode (xb yyS_bass) 2 = .ok (.if_icmp .gt 7, 3) := by decide +kernel
theorem dS_bass_5 : decode (xb yyS_bass) 5 = .ok (.iload_n 1, 1) := by decide +kernel
theorem dS_bass_6 : decode (xb yyS_bass) 6 = .ok (.goto 4, 3) := by decide +kernel
theorem dS_bass_9 : decode (xb yyS_bass) 9 = .ok (.iconst 0, 1) := by decide +kernel
theorem dS_bass_10 : decode (xb yyS_bass) 10 = .ok (.ireturn, 1) := by decide +kernel
def fS_bass  (v0 : Int32) (v1 : Int32) : Option (Int32) := (if (1 : Int32) < v0 then some (0 : Int32) else some v1)
set_option maxRecDepth 100000 in
set_option maxHeartbeats 4000000 in
theorem kS_bass (G : xG)   (S : xS)  (v0 : Int32) (v1 : Int32) : ∀ a, fS_bass  v0 v1 = some a → xCt G yyS_bass [.int v0, .int v1] S (some (.int a)) S := by
  refine xR_ct (em := (emi S)) rfl (Nat.le_of_ble_eq_true rfl) ?_
  show xR G yyS_bass _ 0 [(0, .int v0), (1, .int v1)] [] _ _
  unfold fS_bass
  refine xR_iln 0 0 dS_bass_0 rfl rfl ?_
  refine xR_ic 1 (1 : Int32) dS_bass_1 (by decide) ?_
  refine xR_icgt 2 9 dS_bass_2 (by decide) ?_ ?_
  · refine xR_ic 9 (0 : Int32) dS_bass_9 (by decide) ?_
    exact xR_iret 10 rfl rfl dS_bass_10
  · refine xR_iln 5 1 dS_bass_5 rfl rfl ?_
    refine xR_goto 6 10 dS_bass_6 (by decide) ?_
    exact xR_iret 10 rfl rfl dS_bass_10
theorem dS_playBy_0 : decode (xb yyS_playBy) 0 = .ok (.iload_n 0, 1) := by decide +kernel
theorem dS_playBy_1 : decode (xb yyS_playBy) 1 = .ok (.tableswitch 75 1 5 #[35, 41, 47, 57, 65], 35) := by decide +kernel
theorem dS_playBy_36 : decode (xb yyS_playBy) 36 = .ok (.iload_n 2, 1) := by decide +kernel
theorem dS_playBy_37 : decode (xb yyS_playBy) 37 = .ok (.iload_n 3, 1) := by decide +kernel
theorem dS_playBy_38 : decode (xb yyS_playBy) 38 = .ok (.invokestatic 7, 3) := by decide +kernel
theorem dS_playBy_41 : decode (xb yyS_playBy) 41 = .ok (.ireturn, 1) := by decide +kernel
theorem dS_playBy_42 : decode (xb yyS_playBy) 42 = .ok (.iload_n 1, 1) := by decide +kernel
theorem dS_playBy_43 : decode (xb yyS_playBy) 43 = .ok (.iload_n 2, 1) := by decide +kernel
theorem dS_playBy_44 : decode (xb yyS_playBy) 44 = .ok (.invokestatic 13, 3) := by decide +kernel
theorem dS_playBy_47 : decode (xb yyS_playBy) 47 = .ok (.ireturn, 1) := by decide +kernel
theorem dS_playBy_48 : decode (xb yyS_playBy) 48 = .ok (.iload_n 2, 1) := by decide +kernel
theorem dS_playBy_49 : decode (xb yyS_playBy) 49 = .ok (.iload_n 3, 1) := by decide +kernel
theorem dS_playBy_50 : decode (xb yyS_playBy) 50 = .ok (.invokestatic 7, 3) := by decide +kernel
theorem dS_playBy_53 : decode (xb yyS_playBy) 53 = .ok (.iload_n 3, 1) := by decide +kernel
theorem dS_playBy_54 : decode (xb yyS_playBy) 54 = .ok (.invokestatic 16, 3) := by decide +kernel
theorem dS_playBy_57 : decode (xb yyS_playBy) 57 = .ok (.ireturn, 1) := by decide +kernel
theorem dS_playBy_58 : decode (xb yyS_playBy) 58 = .ok (.iload_n 1, 1) := by decide +kernel
theorem dS_playBy_59 : decode (xb yyS_playBy) 59 = .ok (.iload_n 2, 1) := by decide +kernel
theorem dS_playBy_60 : decode (xb yyS_playBy) 60 = .ok (.iload 4, 2) := by decide +kernel
theorem dS_playBy_62 : decode (xb yyS_playBy) 62 = .ok (.invokestatic 19, 3) := by decide +kernel
theorem dS_playBy_65 : decode (xb yyS_playBy) 65 = .ok (.ireturn, 1) := by decide +kernel
theorem dS_playBy_66 : decode (xb yyS_playBy) 66 = .ok (.iload_n 1, 1) := by decide +kernel
theorem dS_playBy_67 : decode (xb yyS_playBy) 67 = .ok (.iload_n 1, 1) := by decide +kernel
theorem dS_playBy_68 : decode (xb yyS_playBy) 68 = .ok (.iload_n 2, 1) := by decide +kernel
theorem dS_playBy_69 : decode (xb yyS_playBy) 69 = .ok (.invokestatic 13, 3) := by decide +kernel
theorem dS_playBy_72 : decode (xb yyS_playBy) 72 = .ok (.invokestatic 23, 3) := by decide +kernel
theorem dS_playBy_75 : decode (xb yyS_playBy) 75 = .ok (.ireturn, 1) := by decide +kernel
theorem dS_playBy_76 : decode (xb yyS_playBy) 76 = .ok (.iload_n 2, 1) := by decide +kernel
theorem dS_playBy_77 : decode (xb yyS_playBy) 77 = .ok (.ireturn, 1) := by decide +kernel
def fS_playBy  (v0 : Int32) (v1 : Int32) (v2 : Int32) (v3 : Int32) (v4 : Int32) : Option (Int32) := (if v0 = (1 : Int32) then (fS_lent v2 v3).bind fun r38 => some r38 else (if v0 = (2 : Int32) then (fS_cello v1 v2).bind fun r44 => some r44 else (if v0 = (3 : Int32) then (fS_lent v2 v3).bind fun r50 => (fS_tenement r50 v3).bind fun r54 => some r54 else (if v0 = (4 : Int32) then (fS_squeak v1 v2 v4).bind fun r62 => some r62 else (if v0 = (5 : Int32) then (fS_cello v1 v2).bind fun r69 => (fS_bass v1 r69).bind fun r72 => some r72 else some v2)))))
set_option maxRecDepth 100000 in
set_option maxHeartbeats 4000000 in
theorem kS_playBy (G : xG)   (S : xS)  (v0 : Int32) (v1 : Int32) (v2 : Int32) (v3 : Int32) (v4 : Int32) : ∀ a, fS_playBy  v0 v1 v2 v3 v4 = some a → xCt G yyS_playBy [.int v0, .int v1, .int v2, .int v3, .int v4] S (some (.int a)) S := by
  refine xR_ct (em := (emi S)) rfl (Nat.le_of_ble_eq_true rfl) ?_
  show xR G yyS_playBy _ 0 [(0, .int v0), (1, .int v1), (2, .int v2), (3, .int v3), (4, .int v4)] [] _ _
  unfold fS_playBy
  refine xR_iln 0 0 dS_playBy_0 rfl rfl ?_
  refine xR_tsw 1 36 (1 : Int32) dS_playBy_1 (by decide) (by decide) rfl (by decide) ?_ (fun hs1_0 => ?_)
  · refine xR_iln 36 2 dS_playBy_36 rfl rfl ?_
    refine xR_iln 37 3 dS_playBy_37 rfl rfl ?_
    refine xR_callSi 38 cs_S_lent ml_RX3_7 ⟨Nat.le_of_ble_eq_true rfl, Nat.le_of_ble_eq_true rfl⟩ [.int v2, .int v3] rfl rfl (Nat.le_of_ble_eq_true rfl) dS_playBy_38 (kS_lent G S v2 v3) (fun r38 => ?_)
    exact xR_iret 41 rfl rfl dS_playBy_41
  refine xR_tsw 1 42 (2 : Int32) dS_playBy_1 (by decide) (by decide) rfl (by decide) ?_ (fun hs1_1 => ?_)
  · refine xR_iln 42 1 dS_playBy_42 rfl rfl ?_
    refine xR_iln 43 2 dS_playBy_43 rfl rfl ?_
    refine xR_callSi 44 cs_S_cello ml_RX3_13 ⟨Nat.le_of_ble_eq_true rfl, Nat.le_of_ble_eq_true rfl⟩ [.int v1, .int v2] rfl rfl (Nat.le_of_ble_eq_true rfl) dS_playBy_44 (kS_cello G S v1 v2) (fun r44 => ?_)
    exact xR_iret 47 rfl rfl dS_playBy_47
  refine xR_tsw 1 48 (3 : Int32) dS_playBy_1 (by decide) (by decide) rfl (by decide) ?_ (fun hs1_2 => ?_)
  · refine xR_iln 48 2 dS_playBy_48 rfl rfl ?_
    refine xR_iln 49 3 dS_playBy_49 rfl rfl ?_
    refine xR_callSi 50 cs_S_lent ml_RX3_7 ⟨Nat.le_of_ble_eq_true rfl, Nat.le_of_ble_eq_true rfl⟩ [.int v2, .int v3] rfl rfl (Nat.le_of_ble_eq_true rfl) dS_playBy_50 (kS_lent G S v2 v3) (fun r50 => ?_)
    refine xR_iln 53 3 dS_playBy_53 rfl rfl ?_
    refine xR_callSi 54 cs_S_tenement ml_RX3_16 ⟨Nat.le_of_ble_eq_true rfl, Nat.le_of_ble_eq_true rfl⟩ [.int r50, .int v3] rfl rfl (Nat.le_of_ble_eq_true rfl) dS_playBy_54 (kS_tenement G S r50 v3) (fun r54 => ?_)
    exact xR_iret 57 rfl rfl dS_playBy_57
  refine xR_tsw 1 58 (4 : Int32) dS_playBy_1 (by decide) (by decide) rfl (by decide) ?_ (fun hs1_3 => ?_)
  · refine xR_iln 58 1 dS_playBy_58 rfl rfl ?_
    refine xR_iln 59 2 dS_playBy_59 rfl rfl ?_
    refine xR_il 60 4 dS_playBy_60 rfl ?_
    refine xR_callSi 62 cs_S_squeak ml_RX3_19 ⟨Nat.le_of_ble_eq_true rfl, Nat.le_of_ble_eq_true rfl⟩ [.int v1, .int v2, .int v4] rfl rfl (Nat.le_of_ble_eq_true rfl) dS_playBy_62 (kS_squeak G S v1 v2 v4) (fun r62 => ?_)
    exact xR_iret 65 rfl rfl dS_playBy_65
  refine xR_tsw 1 66 (5 : Int32) dS_playBy_1 (by decide) (by decide) rfl (by decide) ?_ (fun hs1_4 => ?_)
  · refine xR_iln 66 1 dS_playBy_66 rfl rfl ?_
    refine xR_iln 67 1 dS_playBy_67 rfl rfl ?_
    refine xR_iln 68 2 dS_playBy_68 rfl rfl ?_
    refine xR_callSi 69 cs_S_cello ml_RX3_13 ⟨Nat.le_of_ble_eq_true rfl, Nat.le_of_ble_eq_true rfl⟩ [.int v1, .int v2] rfl rfl (Nat.le_of_ble_eq_true rfl) dS_playBy_69 (kS_cello G S v1 v2) (fun r69 => ?_)
    refine xR_callSi 72 cs_S_bass ml_RX3_23 ⟨Nat.le_of_ble_eq_true rfl, Nat.le_of_ble_eq_true rfl⟩ [.int v1, .int r69] rfl rfl (Nat.le_of_ble_eq_true rfl) dS_playBy_72 (kS_bass G S v1 r69) (fun r72 => ?_)
    exact xR_iret 75 rfl rfl dS_playBy_75
  refine xR_tso 1 76 dS_playBy_1 (by have e0 := lv_neT hs1_0 (a := 1) rfl; have e1 := lv_neT hs1_1 (a := 2) rfl; have e2 := lv_neT hs1_2 (a := 3) rfl; have e3 := lv_neT hs1_3 (a := 4) rfl; have e4 := lv_neT hs1_4 (a := 5) rfl; omega) (by decide) ?_
  refine xR_iln 76 2 dS_playBy_76 rfl rfl ?_
  exact xR_iret 77 rfl rfl dS_playBy_77
theorem dT_mixedInto_0 : decode (xb yyT_mixedInto) 0 = .ok (.lload_n 1, 1) := by decide +kernel
theorem dT_mixedInto_1 : decode (xb yyT_mixedInto) 1 = .ok (.lstore_n 3, 1) := by decide +kernel
theorem dT_mixedInto_2 : decode (xb yyT_mixedInto) 2 = .ok (.iconst 0, 1) := by decide +kernel
theorem dT_mixedInto_3 : decode (xb yyT_mixedInto) 3 = .ok (.istore 5, 2) := by decide +kernel
theorem dT_mixedInto_5 : decode (xb yyT_mixedInto) 5 = .ok (.iload 5, 2) := by decide +kernel
theorem dT_mixedInto_7 : decode (xb yyT_mixedInto) 7 = .ok (.aload_n 0, 1) := by decide +kernel
theorem dT_mixedInto_8 : decode (xb yyT_mixedInto) 8 = .ok (.getfield 28, 3) := by decide +kernel
theorem dT_mixedInto_11 : decode (xb yyT_mixedInto) 11 = .ok (.if_icmp .ge 43, 3) := by decide +kernel
theorem dT_mixedInto_14 : decode (xb yyT_mixedInto) 14 = .ok (.iconst 0, 1) := by decide +kernel
theorem dT_mixedInto_15 : decode (xb yyT_mixedInto) 15 = .ok (.istore 6, 2) := by decide +kernel
theorem dT_mixedInto_17 : decode (xb yyT_mixedInto) 17 = .ok (.iload 6, 2) := by decide +kernel
theorem dT_mixedInto_19 : decode (xb yyT_mixedInto) 19 = .ok (.aload_n 0, 1) := by decide +kernel
theorem dT_mixedInto_20 : decode (xb yyT_mixedInto) 20 = .ok (.getfield 21, 3) := by decide +kernel
theorem dT_mixedInto_23 : decode (xb yyT_mixedInto) 23 = .ok (.if_icmp .ge 25, 3) := by decide +kernel
theorem dT_mixedInto_26 : decode (xb yyT_mixedInto) 26 = .ok (.ldc2_w 40, 3) := by decide +kernel
theorem dT_mixedInto_29 : decode (xb yyT_mixedInto) 29 = .ok (.lload_n 3, 1) := by decide +kernel
theorem dT_mixedInto_30 : decode (xb yyT_mixedInto) 30 = .ok (.lmul, 1) := by decide +kernel
theorem dT_mixedInto_31 : decode (xb yyT_mixedInto) 31 = .ok (.aload_n 0, 1) := by decide +kernel
theorem dT_mixedInto_32 : decode (xb yyT_mixedInto) 32 = .ok (.iload 5, 2) := by decide +kernel
theorem dT_mixedInto_34 : decode (xb yyT_mixedInto) 34 = .ok (.iload 6, 2) := by decide +kernel
theorem dT_mixedInto_36 : decode (xb yyT_mixedInto) 36 = .ok (.invokevirtual 42, 3) := by decide +kernel
theorem dT_mixedInto_39 : decode (xb yyT_mixedInto) 39 = .ok (.i2l, 1) := by decide +kernel
theorem dT_mixedInto_40 : decode (xb yyT_mixedInto) 40 = .ok (.ladd, 1) := by decide +kernel
theorem dT_mixedInto_41 : decode (xb yyT_mixedInto) 41 = .ok (.lstore_n 3, 1) := by decide +kernel
theorem dT_mixedInto_42 : decode (xb yyT_mixedInto) 42 = .ok (.iinc 6 1, 3) := by decide +kernel
theorem dT_mixedInto_45 : decode (xb yyT_mixedInto) 45 = .ok (.goto (-28), 3) := by decide +kernel
theorem dT_mixedInto_48 : decode (xb yyT_mixedInto) 48 = .ok (.iinc 5 1, 3) := by decide +kernel
theorem dT_mixedInto_51 : decode (xb yyT_mixedInto) 51 = .ok (.goto (-46), 3) := by decide +kernel
theorem dT_mixedInto_54 : decode (xb yyT_mixedInto) 54 = .ok (.lload_n 3, 1) := by decide +kernel
theorem dT_mixedInto_55 : decode (xb yyT_mixedInto) 55 = .ok (.lreturn, 1) := by decide +kernel
def fT_mixedInto_l17 (t : Nat) (m : xM) (k5 : Int64 → Int32 → Option (Int64)) : Nat → Int64 → Int32 → Int32 → Option (Int64)
  | 0, _, _, _ => none
  | n + 1, v3, v5, v6 => (if (xwid t) ≤ v6 then k5 v3 (v5 + 1) else (fT_get t m v5 v6).bind fun r36 => fT_mixedInto_l17 t m k5 n (((31 : Int64) * v3) + ((r36).toInt64)) v5 (v6 + 1))
def fT_mixedInto_l5 (t : Nat) (m : xM) : Nat → Int64 → Int32 → Option (Int64)
  | 0, _, _ => none
  | n + 1, v3, v5 => (if (m.1 36 t) ≤ v5 then some v3 else fT_mixedInto_l17 t m (fT_mixedInto_l5 t m n) xfu v3 v5 (0 : Int32))
def fT_mixedInto (t : Nat) (m : xM) (v1 : Int64) : Option (Int64) := fT_mixedInto_l5 t m xfu v1 (0 : Int32)
set_option maxRecDepth 100000 in
set_option maxHeartbeats 4000000 in
theorem kT_mixedInto_l17 (G : xG) (t : Nat) (ht : t < 36) (z : xM) (m : xM) (k5 : Int64 → Int32 → Option (Int64)) (hk5 : ∀ (v3 : Int64) (v5 : Int32), xR G yyT_mixedInto (eml (m, z)) 5 [(0, .ref (xa G (36 + t))), (3, .long v3), (5, .int v5)] [] (m, z) (k5 v3 v5)) : ∀ (n : Nat) (v3 : Int64) (v5 : Int32) (v6 : Int32), xR G yyT_mixedInto (eml (m, z)) 17 [(0, .ref (xa G (36 + t))), (3, .long v3), (5, .int v5), (6, .int v6)] [] (m, z) (fT_mixedInto_l17 t m k5 n v3 v5 v6) := by
  intro n
  induction n with
  | zero =>
    intro v3 v5 v6
    rw [fT_mixedInto_l17]
    exact xR_none
  | succ n ih =>
    intro v3 v5 v6
    rw [fT_mixedInto_l17]
    refine xR_il 17 3 dT_mixedInto_17 rfl ?_
    refine xR_aln 19 0 dT_mixedInto_19 rfl rfl ?_
    refine xR_getf 20 xcf3 1 (36 + t) (by decide) (xk_T ht) (xC_tab ht) (v := .int (xwid t)) rfl fl_RX4_21 dT_mixedInto_20 ?_
    refine xR_icge 23 48 dT_mixedInto_23 (by decide) ?_ ?_
    · refine xR_iinc 48 2 (v5 + 1) ([(5, .int (v5 + 1)), (0, .ref (xa G (36 + t))), (3, .long v3), (6, .int v6)]) dT_mixedInto_48 rfl rfl (by decide) rfl ?_
      refine xR_goto 51 5 dT_mixedInto_51 (by decide) ?_
      exact xR_sub [1, 2, 0] rfl (hk5 v3 (v5 + 1))
    · refine xR_ldc2 26 cl_RX4_40 dT_mixedInto_26 ?_
      refine xR_lln 29 1 dT_mixedInto_29 rfl rfl ?_
      refine xR_lmul 30 dT_mixedInto_30 ?_
      refine xR_aln 31 0 dT_mixedInto_31 rfl rfl ?_
      refine xR_il 32 2 dT_mixedInto_32 rfl ?_
      refine xR_il 34 3 dT_mixedInto_34 rfl ?_
      refine xR_callVi 36 cv_T_get ml_RX4_42 ⟨Nat.le_of_ble_eq_true rfl, Nat.le_of_ble_eq_true rfl⟩ xcf3 rfl (36 + t) (xk_T ht) (xC_tab ht) [.int v5, .int v6] rfl rfl (Nat.le_of_ble_eq_true rfl) dT_mixedInto_36 (kT_get G t ht z m v5 v6) (fun r36 => ?_)
      refine xR_i2l 39 dT_mixedInto_39 ?_
      refine xR_ladd 40 dT_mixedInto_40 ?_
      refine xR_lsn 41 ([(3, .long (((31 : Int64) * v3) + ((r36).toInt64))), (0, .ref (xa G (36 + t))), (5, .int v5), (6, .int v6)]) dT_mixedInto_41 rfl (by decide) rfl ?_
      refine xR_iinc 42 3 (v6 + 1) ([(6, .int (v6 + 1)), (3, .long (((31 : Int64) * v3) + ((r36).toInt64))), (0, .ref (xa G (36 + t))), (5, .int v5)]) dT_mixedInto_42 rfl rfl (by decide) rfl ?_
      refine xR_goto 45 17 dT_mixedInto_45 (by decide) ?_
      exact xR_sub [2, 1, 3, 0] rfl (ih (((31 : Int64) * v3) + ((r36).toInt64)) v5 (v6 + 1))
set_option maxRecDepth 100000 in
set_option maxHeartbeats 4000000 in
theorem kT_mixedInto_l5 (G : xG) (t : Nat) (ht : t < 36) (z : xM) (m : xM)   : ∀ (n : Nat) (v3 : Int64) (v5 : Int32), xR G yyT_mixedInto (eml (m, z)) 5 [(0, .ref (xa G (36 + t))), (3, .long v3), (5, .int v5)] [] (m, z) (fT_mixedInto_l5 t m n v3 v5) := by
  intro n
  induction n with
  | zero =>
    intro v3 v5
    rw [fT_mixedInto_l5]
    exact xR_none
  | succ n ih =>
    intro v3 v5
    rw [fT_mixedInto_l5]
    refine xR_il 5 2 dT_mixedInto_5 rfl ?_
    refine xR_aln 7 0 dT_mixedInto_7 rfl rfl ?_
    refine xR_getf 8 xcf3 3 (36 + t) (by decide) (xk_T ht) (xC_tab ht) (v := .int (m.1 36 t)) rfl fl_RX4_28 dT_mixedInto_8 ?_
    refine xR_icge 11 54 dT_mixedInto_11 (by decide) ?_ ?_
    · refine xR_lln 54 1 dT_mixedInto_54 rfl rfl ?_
      exact xR_lret 55 rfl rfl dT_mixedInto_55
    · refine xR_ic 14 (0 : Int32) dT_mixedInto_14 (by decide) ?_
      refine xR_is 15 ([(6, .int (0 : Int32)), (0, .ref (xa G (36 + t))), (3, .long v3), (5, .int v5)]) dT_mixedInto_15 (by decide) rfl ?_
      exact xR_sub [1, 2, 3, 0] rfl (kT_mixedInto_l17 G t ht z m (fT_mixedInto_l5 t m n) ih xfu v3 v5 (0 : Int32))
set_option maxRecDepth 100000 in
set_option maxHeartbeats 4000000 in
theorem kT_mixedInto (G : xG) (t : Nat) (ht : t < 36) (z : xM) (m : xM) (v1 : Int64) : ∀ a, fT_mixedInto t m v1 = some a → xCt G yyT_mixedInto [.ref (xa G (36 + t)), .long v1] (m, z) (some (.long a)) (m, z) := by
  refine xR_ct (em := (eml (m, z))) rfl (Nat.le_of_ble_eq_true rfl) ?_
  show xR G yyT_mixedInto _ 0 [(0, .ref (xa G (36 + t))), (1, .long v1)] [] _ _
  unfold fT_mixedInto
  refine xR_lln 0 1 dT_mixedInto_0 rfl rfl ?_
  refine xR_lsn 1 ([(3, .long v1), (0, .ref (xa G (36 + t))), (1, .long v1)]) dT_mixedInto_1 rfl (by decide) rfl ?_
  refine xR_ic 2 (0 : Int32) dT_mixedInto_2 (by decide) ?_
  refine xR_is 3 ([(5, .int (0 : Int32)), (3, .long v1), (0, .ref (xa G (36 + t))), (1, .long v1)]) dT_mixedInto_3 (by decide) rfl ?_
  exact xR_sub [2, 1, 0] rfl (kT_mixedInto_l5 G t ht z m xfu v1 (0 : Int32))
