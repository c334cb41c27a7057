theorem dT_many_0 : decode (xb yyT_many) 0 = .ok (.aload_n 0, 1) := by decide +kernel
theorem dT_many_1 : decode (xb yyT_many) 1 = .ok (.getfield 28, 3) := by decide +kernel
theorem dT_many_4 : decode (xb yyT_many) 4 = .ok (.ireturn, 1) := by decide +kernel
def fT_many (t : Nat) (m : xM) : Option (Int32) := some (m.1 36 t)
set_option maxRecDepth 100000 in
set_option maxHeartbeats 4000000 in
theorem kT_many (G : xG) (t : Nat) (ht : t < 36) (z : xM) (m : xM) : ∀ a, fT_many t m  = some a → xCt G yyT_many [.ref (xa G (36 + t))] (m, z) (some (.int a)) (m, z) := by
  refine xR_ct (em := (emi (m, z))) rfl (Nat.le_of_ble_eq_true rfl) ?_
  show xR G yyT_many _ 0 [(0, .ref (xa G (36 + t)))] [] _ _
  unfold fT_many
  refine xR_aln 0 0 dT_many_0 rfl rfl ?_
  refine xR_getf 1 xcf3 3 (36 + t) (by decide) (xk_T ht) (xC_tab ht) (v := .int (m.1 36 t)) rfl fl_RX4_28 dT_many_1 ?_
  exact xR_iret 4 rfl rfl dT_many_4
theorem dT_empty_0 : decode (xb yyT_empty) 0 = .ok (.aload_n 0, 1) := by decide +kernel
theorem dT_empty_1 : decode (xb yyT_empty) 1 = .ok (.iconst 0, 1) := by decide +kernel
theorem dT_empty_2 : decode (xb yyT_empty) 2 = .ok (.putfield 28, 3) := by decide +kernel
theorem dT_empty_5 : decode (xb yyT_empty) 5 = .ok (.return_, 1) := by decide +kernel
def fT_empty (t : Nat) (m : xM) : Option (xM) := some (xset m 36 t (0 : Int32))
set_option maxRecDepth 100000 in
set_option maxHeartbeats 4000000 in
theorem kT_empty (G : xG) (t : Nat) (ht : t < 36) (z : xM) (m : xM) : ∀ a, fT_empty t m = some a → xCt G yyT_empty [.ref (xa G (36 + t))] (m, z) (none) (a, z) := by
  refine xR_ct (em := (emvc z)) rfl (Nat.le_of_ble_eq_true rfl) ?_
  show xR G yyT_empty _ 0 [(0, .ref (xa G (36 + t)))] [] _ _
  unfold fT_empty
  refine xR_aln 0 0 dT_empty_0 rfl rfl ?_
  refine xR_ic 1 (0 : Int32) dT_empty_1 (by decide) ?_
  refine xR_putf 2 xcf3 3 (36 + t) (by decide) (xk_T ht) (xC_tab ht) rfl rfl rfl (Nat.le_of_ble_eq_true rfl) ((xset m 36 t (0 : Int32)), z) (xW_used ht) fl_RX4_28 dT_empty_2 ?_
  exact xR_vret 5 rfl rfl dT_empty_5
theorem dT_newRow_0 : decode (xb yyT_newRow) 0 = .ok (.aload_n 0, 1) := by decide +kernel
theorem dT_newRow_1 : decode (xb yyT_newRow) 1 = .ok (.getfield 28, 3) := by decide +kernel
theorem dT_newRow_4 : decode (xb yyT_newRow) 4 = .ok (.aload_n 0, 1) := by decide +kernel
theorem dT_newRow_5 : decode (xb yyT_newRow) 5 = .ok (.getfield 15, 3) := by decide +kernel
theorem dT_newRow_8 : decode (xb yyT_newRow) 8 = .ok (.if_icmp .ge 17, 3) := by decide +kernel
theorem dT_newRow_11 : decode (xb yyT_newRow) 11 = .ok (.aload_n 0, 1) := by decide +kernel
theorem dT_newRow_12 : decode (xb yyT_newRow) 12 = .ok (.dup, 1) := by decide +kernel
theorem dT_newRow_13 : decode (xb yyT_newRow) 13 = .ok (.getfield 28, 3) := by decide +kernel
theorem dT_newRow_16 : decode (xb yyT_newRow) 16 = .ok (.dup_x1, 1) := by decide +kernel
theorem dT_newRow_17 : decode (xb yyT_newRow) 17 = .ok (.iconst 1, 1) := by decide +kernel
theorem dT_newRow_18 : decode (xb yyT_newRow) 18 = .ok (.iadd, 1) := by decide +kernel
theorem dT_newRow_19 : decode (xb yyT_newRow) 19 = .ok (.putfield 28, 3) := by decide +kernel
theorem dT_newRow_22 : decode (xb yyT_newRow) 22 = .ok (.goto 4, 3) := by decide +kernel
theorem dT_newRow_25 : decode (xb yyT_newRow) 25 = .ok (.iconst (-1), 1) := by decide +kernel
theorem dT_newRow_26 : decode (xb yyT_newRow) 26 = .ok (.ireturn, 1) := by decide +kernel
def fT_newRow (t : Nat) (m : xM) : Option (Int32 × xM) := (if (xrows t) ≤ (m.1 36 t) then some ((-1 : Int32), m) else some ((m.1 36 t), (xset m 36 t ((m.1 36 t) + (1 : Int32)))))
set_option maxRecDepth 100000 in
set_option maxHeartbeats 4000000 in
theorem kT_newRow (G : xG) (t : Nat) (ht : t < 36) (z : xM) (m : xM) : ∀ a, fT_newRow t m = some a → xCt G yyT_newRow [.ref (xa G (36 + t))] (m, z) (some (.int a.1)) (a.2, z) := by
  refine xR_ct (em := (emic z)) rfl (Nat.le_of_ble_eq_true rfl) ?_
  show xR G yyT_newRow _ 0 [(0, .ref (xa G (36 + t)))] [] _ _
  unfold fT_newRow
  refine xR_aln 0 0 dT_newRow_0 rfl rfl ?_
  refine xR_getf 1 xcf3 3 (36 + t) (by decide) (xk_T ht) (xC_tab ht) (v := .int (m.1 36 t)) rfl fl_RX4_28 dT_newRow_1 ?_
  refine xR_aln 4 0 dT_newRow_4 rfl rfl ?_
  refine xR_getf 5 xcf3 0 (36 + t) (by decide) (xk_T ht) (xC_tab ht) (v := .int (xrows t)) rfl fl_RX4_15 dT_newRow_5 ?_
  refine xR_icge 8 25 dT_newRow_8 (by decide) ?_ ?_
  · refine xR_ic 25 (-1 : Int32) dT_newRow_25 (by decide) ?_
    exact xR_iret 26 rfl rfl dT_newRow_26
  · refine xR_aln 11 0 dT_newRow_11 rfl rfl ?_
    refine xR_dup 12 dT_newRow_12 rfl ?_
    refine xR_getf 13 xcf3 3 (36 + t) (by decide) (xk_T ht) (xC_tab ht) (v := .int (m.1 36 t)) rfl fl_RX4_28 dT_newRow_13 ?_
    refine xR_dup_x1 16 dT_newRow_16 rfl rfl ?_
    refine xR_ic 17 (1 : Int32) dT_newRow_17 (by decide) ?_
    refine xR_iadd 18 dT_newRow_18 ?_
    refine xR_putf 19 xcf3 3 (36 + t) (by decide) (xk_T ht) (xC_tab ht) rfl rfl rfl (Nat.le_of_ble_eq_true rfl) ((xset m 36 t ((m.1 36 t) + (1 : Int32))), z) (xW_used ht) fl_RX4_28 dT_newRow_19 ?_
    refine xR_goto 22 26 dT_newRow_22 (by decide) ?_
    exact xR_iret 26 rfl rfl dT_newRow_26
theorem dT_put_0 : decode (xb yyT_put) 0 = .ok (.iload_n 1, 1) := by decide +kernel
theorem dT_put_1 : decode (xb yyT_put) 1 = .ok (.aload_n 0, 1) := by decide +kernel
theorem dT_put_2 : decode (xb yyT_put) 2 = .ok (.getfield 21, 3) := by decide +kernel
theorem dT_put_5 : decode (xb yyT_put) 5 = .ok (.imul, 1) := by decide +kernel
theorem dT_put_6 : decode (xb yyT_put) 6 = .ok (.iload_n 2, 1) := by decide +kernel
theorem dT_put_7 : decode (xb yyT_put) 7 = .ok (.iadd, 1) := by decide +kernel
theorem dT_put_8 : decode (xb yyT_put) 8 = .ok (.istore 4, 2) := by decide +kernel
theorem dT_put_10 : decode (xb yyT_put) 10 = .ok (.iload_n 2, 1) := by decide +kernel
theorem dT_put_11 : decode (xb yyT_put) 11 = .ok (.ifCond .lt 34, 3) := by decide +kernel
theorem dT_put_14 : decode (xb yyT_put) 14 = .ok (.iload_n 2, 1) := by decide +kernel
theorem dT_put_15 : decode (xb yyT_put) 15 = .ok (.aload_n 0, 1) := by decide +kernel
theorem dT_put_16 : decode (xb yyT_put) 16 = .ok (.getfield 21, 3) := by decide +kernel
theorem dT_put_19 : decode (xb yyT_put) 19 = .ok (.if_icmp .ge 26, 3) := by decide +kernel
theorem dT_put_22 : decode (xb yyT_put) 22 = .ok (.iload 4, 2) := by decide +kernel
theorem dT_put_24 : decode (xb yyT_put) 24 = .ok (.ifCond .lt 21, 3) := by decide +kernel
theorem dT_put_27 : decode (xb yyT_put) 27 = .ok (.iload 4, 2) := by decide +kernel
theorem dT_put_29 : decode (xb yyT_put) 29 = .ok (.aload_n 0, 1) := by decide +kernel
theorem dT_put_30 : decode (xb yyT_put) 30 = .ok (.getfield 24, 3) := by decide +kernel
theorem dT_put_33 : decode (xb yyT_put) 33 = .ok (.arraylength, 1) := by decide +kernel
theorem dT_put_34 : decode (xb yyT_put) 34 = .ok (.if_icmp .ge 11, 3) := by decide +kernel
theorem dT_put_37 : decode (xb yyT_put) 37 = .ok (.aload_n 0, 1) := by decide +kernel
theorem dT_put_38 : decode (xb yyT_put) 38 = .ok (.getfield 24, 3) := by decide +kernel
theorem dT_put_41 : decode (xb yyT_put) 41 = .ok (.iload 4, 2) := by decide +kernel
theorem dT_put_43 : decode (xb yyT_put) 43 = .ok (.iload_n 3, 1) := by decide +kernel
theorem dT_put_44 : decode (xb yyT_put) 44 = .ok (.iastore, 1) := by decide +kernel
theorem dT_put_45 : decode (xb yyT_put) 45 = .ok (.return_, 1) := by decide +kernel
def fT_put (t : Nat) (v1 : Int32) (v2 : Int32) (v3 : Int32) (m : xM) : Option (xM) := (if v2 < 0 then some m else (if (xwid t) ≤ v2 then some m else (if ((v1 * (xwid t)) + v2) < 0 then some m else (if (Int32.ofNat (xlen t)) ≤ ((v1 * (xwid t)) + v2) then some m else xck (xlen t) ((v1 * (xwid t)) + v2) (some (xset m t ((v1 * (xwid t)) + v2).toNatClampNeg v3))))))
set_option maxRecDepth 100000 in
set_option maxHeartbeats 4000000 in
theorem kT_put (G : xG) (t : Nat) (ht : t < 36) (z : xM) (m : xM) (v1 : Int32) (v2 : Int32) (v3 : Int32) : ∀ a, fT_put t v1 v2 v3 m = some a → xCt G yyT_put [.ref (xa G (36 + t)), .int v1, .int v2, .int v3] (m, z) (none) (a, z) := by
  refine xR_ct (em := (emvc z)) rfl (Nat.le_of_ble_eq_true rfl) ?_
  show xR G yyT_put _ 0 [(0, .ref (xa G (36 + t))), (1, .int v1), (2, .int v2), (3, .int v3)] [] _ _
  unfold fT_put
  refine xR_iln 0 1 dT_put_0 rfl rfl ?_
  refine xR_aln 1 0 dT_put_1 rfl rfl ?_
  refine xR_getf 2 xcf3 1 (36 + t) (by decide) (xk_T ht) (xC_tab ht) (v := .int (xwid t)) rfl fl_RX4_21 dT_put_2 ?_
  refine xR_imul 5 dT_put_5 ?_
  refine xR_iln 6 2 dT_put_6 rfl rfl ?_
  refine xR_iadd 7 dT_put_7 ?_
  refine xR_is 8 ([(4, .int ((v1 * (xwid t)) + v2)), (0, .ref (xa G (36 + t))), (1, .int v1), (2, .int v2), (3, .int v3)]) dT_put_8 (by decide) rfl ?_
  refine xR_iln 10 3 dT_put_10 rfl rfl ?_
  refine xR_iflt 11 45 dT_put_11 (by decide) ?_ ?_
  · exact xR_vret 45 rfl rfl dT_put_45
  · refine xR_iln 14 3 dT_put_14 rfl rfl ?_
    refine xR_aln 15 1 dT_put_15 rfl rfl ?_
    refine xR_getf 16 xcf3 1 (36 + t) (by decide) (xk_T ht) (xC_tab ht) (v := .int (xwid t)) rfl fl_RX4_21 dT_put_16 ?_
    refine xR_icge 19 45 dT_put_19 (by decide) ?_ ?_
    · exact xR_vret 45 rfl rfl dT_put_45
    · refine xR_il 22 0 dT_put_22 rfl ?_
      refine xR_iflt 24 45 dT_put_24 (by decide) ?_ ?_
      · exact xR_vret 45 rfl rfl dT_put_45
      · refine xR_il 27 0 dT_put_27 rfl ?_
        refine xR_aln 29 1 dT_put_29 rfl rfl ?_
        refine xR_getf 30 xcf3 2 (36 + t) (by decide) (xk_T ht) (xC_tab ht) (v := .ref (xa G t)) rfl fl_RX4_24 dT_put_30 ?_
        refine xR_alen 33 t (xk_A ht) (xC_arr ht) dT_put_33 ?_
        refine xR_icge 34 45 dT_put_34 (by decide) ?_ ?_
        · exact xR_vret 45 rfl rfl dT_put_45
        · refine xR_aln 37 1 dT_put_37 rfl rfl ?_
          refine xR_getf 38 xcf3 2 (36 + t) (by decide) (xk_T ht) (xC_tab ht) (v := .ref (xa G t)) rfl fl_RX4_24 dT_put_38 ?_
          refine xR_il 41 0 dT_put_41 rfl ?_
          refine xR_iln 43 4 dT_put_43 rfl rfl ?_
          refine xR_iast 44 t (xk_A ht) (xC_arr ht) ((xset m t ((v1 * (xwid t)) + v2).toNatClampNeg v3), z) (xW_arr ht) dT_put_44 ?_
          exact xR_vret 45 rfl rfl dT_put_45
theorem dH_within_0 : decode (xb yyH_within) 0 = .ok (.iload_n 0, 1) := by decide +kernel
theorem dH_within_1 : decode (xb yyH_within) 1 = .ok (.iload_n 1, 1) := by decide +kernel
theorem dH_within_2 : decode (xb yyH_within) 2 = .ok (.if_icmp .lt 12, 3) := by decide +kernel
theorem dH_within_5 : decode (xb yyH_within) 5 = .ok (.iload_n 0, 1) := by decide +kernel
theorem dH_within_6 : decode (xb yyH_within) 6 = .ok (.iload_n 2, 1) := by decide +kernel
theorem dH_within_7 : decode (xb yyH_within) 7 = .ok (.if_icmp .gt 7, 3) := by decide +kernel
theorem dH_within_10 : decode (xb yyH_within) 10 = .ok (.iconst 1, 1) := by decide +kernel
theorem dH_within_11 : decode (xb yyH_within) 11 = .ok (.goto 4, 3) := by decide +kernel
theorem dH_within_14 : decode (xb yyH_within) 14 = .ok (.iconst 0, 1) := by decide +kernel
theorem dH_within_15 : decode (xb yyH_within) 15 = .ok (.ireturn, 1) := by decide +kernel
def fH_within  (v0 : Int32) (v1 : Int32) (v2 : Int32) : Option (Int32) := (if v0 < v1 then some (xnb (0 : Int32)) else (if v2 < v0 then some (xnb (0 : Int32)) else some (xnb (1 : Int32))))
set_option maxRecDepth 100000 in
set_option maxHeartbeats 4000000 in
theorem kH_within (G : xG)   (S : xS)  (v0 : Int32) (v1 : Int32) (v2 : Int32) : ∀ a, fH_within  v0 v1 v2 = some a → xCt G yyH_within [.int v0, .int v1, .int v2] S (some (.int a)) S := by
  refine xR_ct (em := (emi S)) rfl (Nat.le_of_ble_eq_true rfl) ?_
  show xR G yyH_within _ 0 [(0, .int v0), (1, .int v1), (2, .int v2)] [] _ _
  unfold fH_within
  refine xR_iln 0 0 dH_within_0 rfl rfl ?_
  refine xR_iln 1 1 dH_within_1 rfl rfl ?_
  refine xR_iclt 2 14 dH_within_2 (by decide) ?_ ?_
  · refine xR_ic 14 (0 : Int32) dH_within_14 (by decide) ?_
    exact xR_zret 15 rfl rfl dH_within_15
  · refine xR_iln 5 0 dH_within_5 rfl rfl ?_
    refine xR_iln 6 2 dH_within_6 rfl rfl ?_
    refine xR_icgt 7 14 dH_within_7 (by decide) ?_ ?_
    · refine xR_ic 14 (0 : Int32) dH_within_14 (by decide) ?_
      exact xR_zret 15 rfl rfl dH_within_15
    · refine xR_ic 10 (1 : Int32) dH_within_10 (by decide) ?_
      refine xR_goto 11 15 dH_within_11 (by decide) ?_
      exact xR_zret 15 rfl rfl dH_within_15
theorem dT_get_0 : decode (xb yyT_get) 0 = .ok (.iload_n 1, 1) := by decide +kernel
theorem dT_get_1 : decode (xb yyT_get) 1 = .ok (.aload_n 0, 1) := by decide +kernel
theorem dT_get_2 : decode (xb yyT_get) 2 = .ok (.getfield 21, 3) := by decide +kernel
theorem dT_get_5 : decode (xb yyT_get) 5 = .ok (.imul, 1) := by decide +kernel
theorem dT_get_6 : decode (xb yyT_get) 6 = .ok (.iload_n 2, 1) := by decide +kernel
theorem dT_get_7 : decode (xb yyT_get) 7 = .ok (.iadd, 1) := by decide +kernel
theorem dT_get_8 : decode (xb yyT_get) 8 = .ok (.istore_n 3, 1) := by decide +kernel
theorem dT_get_9 : decode (xb yyT_get) 9 = .ok (.iload_n 2, 1) := by decide +kernel
theorem dT_get_10 : decode (xb yyT_get) 10 = .ok (.ifCond .lt 24, 3) := by decide +kernel
theorem dT_get_13 : decode (xb yyT_get) 13 = .ok (.iload_n 2, 1) := by decide +kernel
theorem dT_get_14 : decode (xb yyT_get) 14 = .ok (.aload_n 0, 1) := by decide +kernel
theorem dT_get_15 : decode (xb yyT_get) 15 = .ok (.getfield 21, 3) := by decide +kernel
theorem dT_get_18 : decode (xb yyT_get) 18 = .ok (.if_icmp .ge 16, 3) := by decide +kernel
theorem dT_get_21 : decode (xb yyT_get) 21 = .ok (.iload_n 3, 1) := by decide +kernel
theorem dT_get_22 : decode (xb yyT_get) 22 = .ok (.ifCond .lt 12, 3) := by decide +kernel
theorem dT_get_25 : decode (xb yyT_get) 25 = .ok (.iload_n 3, 1) := by decide +kernel
theorem dT_get_26 : decode (xb yyT_get) 26 = .ok (.aload_n 0, 1) := by decide +kernel
theorem dT_get_27 : decode (xb yyT_get) 27 = .ok (.getfield 24, 3) := by decide +kernel
theorem dT_get_30 : decode (xb yyT_get) 30 = .ok (.arraylength, 1) := by decide +kernel
theorem dT_get_31 : decode (xb yyT_get) 31 = .ok (.if_icmp .lt 5, 3) := by decide +kernel
theorem dT_get_34 : decode (xb yyT_get) 34 = .ok (.iconst 0, 1) := by decide +kernel
theorem dT_get_35 : decode (xb yyT_get) 35 = .ok (.ireturn, 1) := by decide +kernel
theorem dT_get_36 : decode (xb yyT_get) 36 = .ok (.aload_n 0, 1) := by decide +kernel
theorem dT_get_37 : decode (xb yyT_get) 37 = .ok (.getfield 24, 3) := by decide +kernel
theorem dT_get_40 : decode (xb yyT_get) 40 = .ok (.iload_n 3, 1) := by decide +kernel
theorem dT_get_41 : decode (xb yyT_get) 41 = .ok (.iaload, 1) := by decide +kernel
theorem dT_get_42 : decode (xb yyT_get) 42 = .ok (.ireturn, 1) := by decide +kernel
def fT_get (t : Nat) (m : xM) (v1 : Int32) (v2 : Int32) : Option (Int32) := (if v2 < 0 then some (0 : Int32) else (if (xwid t) ≤ v2 then some (0 : Int32) else (if ((v1 * (xwid t)) + v2) < 0 then some (0 : Int32) else (if ((v1 * (xwid t)) + v2) < (Int32.ofNat (xlen t)) then xck (xlen t) ((v1 * (xwid t)) + v2) (some (m.1 t ((v1 * (xwid t)) + v2).toNatClampNeg)) else some (0 : Int32)))))
set_option maxRecDepth 100000 in
set_option maxHeartbeats 4000000 in
theorem kT_get (G : xG) (t : Nat) (ht : t < 36) (z : xM) (m : xM) (v1 : Int32) (v2 : Int32) : ∀ a, fT_get t m v1 v2 = some a → xCt G yyT_get [.ref (xa G (36 + t)), .int v1, .int v2] (m, z) (some (.int a)) (m, z) := by
  refine xR_ct (em := (emi (m, z))) rfl (Nat.le_of_ble_eq_true rfl) ?_
  show xR G yyT_get _ 0 [(0, .ref (xa G (36 + t))), (1, .int v1), (2, .int v2)] [] _ _
  unfold fT_get
  refine xR_iln 0 1 dT_get_0 rfl rfl ?_
  refine xR_aln 1 0 dT_get_1 rfl rfl ?_
  refine xR_getf 2 xcf3 1 (36 + t) (by decide) (xk_T ht) (xC_tab ht) (v := .int (xwid t)) rfl fl_RX4_21 dT_get_2 ?_
  refine xR_imul 5 dT_get_5 ?_
  refine xR_iln 6 2 dT_get_6 rfl rfl ?_
  refine xR_iadd 7 dT_get_7 ?_
  refine xR_isn 8 ([(3, .int ((v1 * (xwid t)) + v2)), (0, .ref (xa G (36 + t))), (1, .int v1), (2, .int v2)]) dT_get_8 rfl (by decide) rfl ?_
  refine xR_iln 9 3 dT_get_9 rfl rfl ?_
  refine xR_iflt 10 34 dT_get_10 (by decide) ?_ ?_
  · refine xR_ic 34 (0 : Int32) dT_get_34 (by decide) ?_
    exact xR_iret 35 rfl rfl dT_get_35
  · refine xR_iln 13 3 dT_get_13 rfl rfl ?_
    refine xR_aln 14 1 dT_get_14 rfl rfl ?_
    refine xR_getf 15 xcf3 1 (36 + t) (by decide) (xk_T ht) (xC_tab ht) (v := .int (xwid t)) rfl fl_RX4_21 dT_get_15 ?_
    refine xR_icge 18 34 dT_get_18 (by decide) ?_ ?_
    · refine xR_ic 34 (0 : Int32) dT_get_34 (by decide) ?_
      exact xR_iret 35 rfl rfl dT_get_35
    · refine xR_iln 21 0 dT_get_21 rfl rfl ?_
      refine xR_iflt 22 34 dT_get_22 (by decide) ?_ ?_
      · refine xR_ic 34 (0 : Int32) dT_get_34 (by decide) ?_
        exact xR_iret 35 rfl rfl dT_get_35
      · refine xR_iln 25 0 dT_get_25 rfl rfl ?_
        refine xR_aln 26 1 dT_get_26 rfl rfl ?_
        refine xR_getf 27 xcf3 2 (36 + t) (by decide) (xk_T ht) (xC_tab ht) (v := .ref (xa G t)) rfl fl_RX4_24 dT_get_27 ?_
        refine xR_alen 30 t (xk_A ht) (xC_arr ht) dT_get_30 ?_
        refine xR_iclt 31 36 dT_get_31 (by decide) ?_ ?_
        · refine xR_aln 36 1 dT_get_36 rfl rfl ?_
          refine xR_getf 37 xcf3 2 (36 + t) (by decide) (xk_T ht) (xC_tab ht) (v := .ref (xa G t)) rfl fl_RX4_24 dT_get_37 ?_
          refine xR_iln 40 0 dT_get_40 rfl rfl ?_
          refine xR_iald 41 t (xk_A ht) (xC_arr ht) dT_get_41 ?_
          exact xR_iret 42 rfl rfl dT_get_42
        · refine xR_ic 34 (0 : Int32) dT_get_34 (by decide) ?_
          exact xR_iret 35 rfl rfl dT_get_35
theorem dH_isKind_0 : decode (xb yyH_isKind) 0 = .ok (.iload_n 0, 1) := by decide +kernel
theorem dH_isKind_1 : decode (xb yyH_isKind) 1 = .ok (.iconst 0, 1) := by decide +kernel
theorem dH_isKind_2 : decode (xb yyH_isKind) 2 = .ok (.iconst 5, 1) := by decide +kernel
theorem dH_isKind_3 : decode (xb yyH_isKind) 3 = .ok (.invokestatic 78, 3) := by decide +kernel
theorem dH_isKind_6 : decode (xb yyH_isKind) 6 = .ok (.ireturn, 1) := by decide +kernel
def fH_isKind  (v0 : Int32) : Option (Int32) := (fH_within v0 (0 : Int32) (5 : Int32)).bind fun r3 => some (xnb r3)
set_option maxRecDepth 100000 in
set_option maxHeartbeats 4000000 in
theorem kH_isKind (G : xG)   (S : xS)  (v0 : Int32) : ∀ a, fH_isKind  v0 = some a → xCt G yyH_isKind [.int v0] S (some (.int a)) S := by
  refine xR_ct (em := (emi S)) rfl (Nat.le_of_ble_eq_true rfl) ?_
  show xR G yyH_isKind _ 0 [(0, .int v0)] [] _ _
  unfold fH_isKind
  refine xR_iln 0 0 dH_isKind_0 rfl rfl ?_
  refine xR_ic 1 (0 : Int32) dH_isKind_1 (by decide) ?_
  refine xR_ic 2 (5 : Int32) dH_isKind_2 (by decide) ?_
  refine xR_callSi 3 cs_H_within ml_RX8_78 ⟨Nat.le_of_ble_eq_true rfl, Nat.le_of_ble_eq_true rfl⟩ [.int v0, .int (0 : Int32), .int (5 : Int32)] rfl rfl (Nat.le_of_ble_eq_true rfl) dH_isKind_3 (kH_within G S v0 (0 : Int32) (5 : Int32)) (fun r3 => ?_)
  exact xR_zret 6 rfl rfl dH_isKind_6
theorem dO_textOf_0 : decode (xb yyO_textOf) 0 = .ok (.iload_n 0, 1) := by decide +kernel
theorem dO_textOf_1 : decode (xb yyO_textOf) 1 = .ok (.tableswitch 57 0 5 #[39, 42, 45, 48, 51, 54], 39) := by decide +kernel
theorem dO_textOf_40 : decode (xb yyO_textOf) 40 = .ok (.ldc 81, 2) := by decide +kernel
theorem dO_textOf_42 : decode (xb yyO_textOf) 42 = .ok (.areturn, 1) := by decide +kernel
theorem dO_textOf_43 : decode (xb yyO_textOf) 43 = .ok (.ldc 83, 2) := by decide +kernel
theorem dO_textOf_45 : decode (xb yyO_textOf) 45 = .ok (.areturn, 1) := by decide +kernel
theorem dO_textOf_46 : decode (xb yyO_textOf) 46 = .ok (.ldc 85, 2) := by decide +kernel
theorem dO_textOf_48 : decode (xb yyO_textOf) 48 = .ok (.areturn, 1) := by decide +kernel
theorem dO_textOf_49 : decode (xb yyO_textOf) 49 = .ok (.ldc 87, 2) := by decide +kernel
theorem dO_textOf_51 : decode (xb yyO_textOf) 51 = .ok (.areturn, 1) := by decide +kernel
theorem dO_textOf_52 : decode (xb yyO_textOf) 52 = .ok (.ldc 89, 2) := by decide +kernel
theorem dO_textOf_54 : decode (xb yyO_textOf) 54 = .ok (.areturn, 1) := by decide +kernel
theorem dO_textOf_55 : decode (xb yyO_textOf) 55 = .ok (.ldc 91, 2) := by decide +kernel
theorem dO_textOf_57 : decode (xb yyO_textOf) 57 = .ok (.areturn, 1) := by decide +kernel
theorem dO_textOf_58 : decode (xb yyO_textOf) 58 = .ok (.ldc 93, 2) := by decide +kernel
theorem dO_textOf_60 : decode (xb yyO_textOf) 60 = .ok (.areturn, 1) := by decide +kernel
def fO_textOf  (v0 : Int32) : Option (Nat) := (if v0 = (0 : Int32) then some 0 else (if v0 = (1 : Int32) then some 1 else (if v0 = (2 : Int32) then some 2 else (if v0 = (3 : Int32) then some 3 else (if v0 = (4 : Int32) then some 4 else (if v0 = (5 : Int32) then some 5 else some 6))))))
set_option maxRecDepth 100000 in
set_option maxHeartbeats 4000000 in
theorem kO_textOf (G : xG)   (S : xS)  (v0 : Int32) : ∀ a, fO_textOf  v0 = some a → xCt G yyO_textOf [.int v0] S (some (.ref (xa G (100 + a)))) S := by
  refine xR_ct (em := (emq G S)) rfl (Nat.le_of_ble_eq_true rfl) ?_
  show xR G yyO_textOf _ 0 [(0, .int v0)] [] _ _
  unfold fO_textOf
  refine xR_iln 0 0 dO_textOf_0 rfl rfl ?_
  refine xR_tsw 1 40 (0 : Int32) dO_textOf_1 (by decide) (by decide) rfl (by decide) ?_ (fun hs1_0 => ?_)
  · refine xR_sldc 40 0 (by decide) rfl rfl dO_textOf_40 ?_
    exact xR_aret 42 0 rfl rfl dO_textOf_42
  refine xR_tsw 1 43 (1 : Int32) dO_textOf_1 (by decide) (by decide) rfl (by decide) ?_ (fun hs1_1 => ?_)
  · refine xR_sldc 43 1 (by decide) rfl rfl dO_textOf_43 ?_
    exact xR_aret 45 1 rfl rfl dO_textOf_45
  refine xR_tsw 1 46 (2 : Int32) dO_textOf_1 (by decide) (by decide) rfl (by decide) ?_ (fun hs1_2 => ?_)
  · refine xR_sldc 46 2 (by decide) rfl rfl dO_textOf_46 ?_
    exact xR_aret 48 2 rfl rfl dO_textOf_48
  refine xR_tsw 1 49 (3 : Int32) dO_textOf_1 (by decide) (by decide) rfl (by decide) ?_ (fun hs1_3 => ?_)
  · refine xR_sldc 49 3 (by decide) rfl rfl dO_textOf_49 ?_
    exact xR_aret 51 3 rfl rfl dO_textOf_51
  refine xR_tsw 1 52 (4 : Int32) dO_textOf_1 (by decide) (by decide) rfl (by decide) ?_ (fun hs1_4 => ?_)
  · refine xR_sldc 52 4 (by decide) rfl rfl dO_textOf_52 ?_
    exact xR_aret 54 4 rfl rfl dO_textOf_54
  refine xR_tsw 1 55 (5 : Int32) dO_textOf_1 (by decide) (by decide) rfl (by decide) ?_ (fun hs1_5 => ?_)
  · refine xR_sldc 55 5 (by decide) rfl rfl dO_textOf_55 ?_
    exact xR_aret 57 5 rfl rfl dO_textOf_57
  refine xR_tso 1 58 dO_textOf_1 (by have e0 := lv_neT hs1_0 (a := 0) rfl; have e1 := lv_neT hs1_1 (a := 1) rfl; have e2 := lv_neT hs1_2 (a := 2) rfl; have e3 := lv_neT hs1_3 (a := 3) rfl; have e4 := lv_neT hs1_4 (a := 4) rfl; have e5 := lv_neT hs1_5 (a := 5) rfl; omega) (by decide) ?_
  refine xR_sldc 58 6 (by decide) rfl rfl dO_textOf_58 ?_
  exact xR_aret 60 6 rfl rfl dO_textOf_60
theorem dU_coder_0 : decode (xb yyU_coder) 0 = .ok (.getstatic 38, 3) := by decide +kernel
theorem dU_coder_3 : decode (xb yyU_coder) 3 = .ok (.ifCond .eq 10, 3) := by decide +kernel
theorem dU_coder_6 : decode (xb yyU_coder) 6 = .ok (.aload_n 0, 1) := by decide +kernel
theorem dU_coder_7 : decode (xb yyU_coder) 7 = .ok (.getfield 15, 3) := by decide +kernel
theorem dU_coder_10 : decode (xb yyU_coder) 10 = .ok (.goto 4, 3) := by decide +kernel
theorem dU_coder_13 : decode (xb yyU_coder) 13 = .ok (.iconst 1, 1) := by decide +kernel
theorem dU_coder_14 : decode (xb yyU_coder) 14 = .ok (.ireturn, 1) := by decide +kernel
def fU_coder (t : Nat) : Option (Int32) := (if (1 : Int32) = 0 then some (vp_nar .byte (1 : Int32)) else some (vp_nar .byte (0 : Int32)))
set_option maxRecDepth 100000 in
set_option maxHeartbeats 4000000 in
theorem kU_coder (G : xG) (t : Nat) (ht : t < 7) (S : xS)  : ∀ a, fU_coder t  = some a → xCt G yyU_coder [.ref (xa G (100 + t))] S (some (.int a)) S := by
  refine xR_ct (em := (emi S)) rfl (Nat.le_of_ble_eq_true rfl) ?_
  show xR G yyU_coder _ 0 [(0, .ref (xa G (100 + t)))] [] _ _
  unfold fU_coder
  refine xR_sgets 0 fl_RJ0_38 dU_coder_0 ?_
  refine xR_ifeq 3 13 dU_coder_3 (by decide) ?_ ?_
  · refine xR_ic 13 (1 : Int32) dU_coder_13 (by decide) ?_
    exact xR_nret 14 .byte (by decide) rfl rfl dU_coder_14
  · refine xR_aln 6 0 dU_coder_6 rfl rfl ?_
    refine xR_sgetc 7 t ht fl_RJ0_15 dU_coder_7 ?_
    refine xR_goto 10 14 dU_coder_10 (by decide) ?_
    exact xR_nret 14 .byte (by decide) rfl rfl dU_coder_14
theorem dU_length_0 : decode (xb yyU_length) 0 = .ok (.aload_n 0, 1) := by decide +kernel
theorem dU_length_1 : decode (xb yyU_length) 1 = .ok (.getfield 9, 3) := by decide +kernel
theorem dU_length_4 : decode (xb yyU_length) 4 = .ok (.arraylength, 1) := by decide +kernel
theorem dU_length_5 : decode (xb yyU_length) 5 = .ok (.aload_n 0, 1) := by decide +kernel
theorem dU_length_6 : decode (xb yyU_length) 6 = .ok (.invokevirtual 335, 3) := by decide +kernel
theorem dU_length_9 : decode (xb yyU_length) 9 = .ok (.ishr, 1) := by decide +kernel
theorem dU_length_10 : decode (xb yyU_length) 10 = .ok (.ireturn, 1) := by decide +kernel
def fU_length (t : Nat) : Option (Int32) := (fU_coder t).bind fun r6 => some ((Int32.ofNat (xlS.getD t 0)) >>> (r6 &&& 31))
set_option maxRecDepth 100000 in
set_option maxHeartbeats 4000000 in
theorem kU_length (G : xG) (t : Nat) (ht : t < 7) (S : xS)  : ∀ a, fU_length t  = some a → xCt G yyU_length [.ref (xa G (100 + t))] S (some (.int a)) S := by
  refine xR_ct (em := (emi S)) rfl (Nat.le_of_ble_eq_true rfl) ?_
  show xR G yyU_length _ 0 [(0, .ref (xa G (100 + t)))] [] _ _
  unfold fU_length
  refine xR_aln 0 0 dU_length_0 rfl rfl ?_
  refine xR_sgetv 1 t ht fl_RJ0_9 dU_length_1 ?_
  refine xR_salen 4 t ht dU_length_4 ?_
  refine xR_aln 5 0 dU_length_5 rfl rfl ?_
  refine xR_callQi 6 cv_U_coder ml_RJ0_335 ⟨Nat.le_of_ble_eq_true rfl, Nat.le_of_ble_eq_true rfl⟩ rfl t ht [] rfl rfl (Nat.le_of_ble_eq_true rfl) dU_length_6 (kU_coder G t ht S) (fun r6 => ?_)
  refine xR_ishr 9 dU_length_9 ?_
  exact xR_iret 10 rfl rfl dU_length_10
theorem dU_isLatin1_0 : decode (xb yyU_isLatin1) 0 = .ok (.getstatic 38, 3) := by decide +kernel
theorem dU_isLatin1_3 : decode (xb yyU_isLatin1) 3 = .ok (.ifCond .eq 14, 3) := by decide +kernel
theorem dU_isLatin1_6 : decode (xb yyU_isLatin1) 6 = .ok (.aload_n 0, 1) := by decide +kernel
theorem dU_isLatin1_7 : decode (xb yyU_isLatin1) 7 = .ok (.getfield 15, 3) := by decide +kernel
theorem dU_isLatin1_10 : decode (xb yyU_isLatin1) 10 = .ok (.ifCond .ne 7, 3) := by decide +kernel
theorem dU_isLatin1_13 : decode (xb yyU_isLatin1) 13 = .ok (.iconst 1, 1) := by decide +kernel
theorem dU_isLatin1_14 : decode (xb yyU_isLatin1) 14 = .ok (.goto 4, 3) := by decide +kernel
theorem dU_isLatin1_17 : decode (xb yyU_isLatin1) 17 = .ok (.iconst 0, 1) := by decide +kernel
theorem dU_isLatin1_18 : decode (xb yyU_isLatin1) 18 = .ok (.ireturn, 1) := by decide +kernel
def fU_isLatin1 (t : Nat) : Option (Int32) := (if (1 : Int32) = 0 then some (xnb (0 : Int32)) else (if (0 : Int32) = 0 then some (xnb (1 : Int32)) else some (xnb (0 : Int32))))
set_option maxRecDepth 100000 in
set_option maxHeartbeats 4000000 in
theorem kU_isLatin1 (G : xG) (t : Nat) (ht : t < 7) (S : xS)  : ∀ a, fU_isLatin1 t  = some a → xCt G yyU_isLatin1 [.ref (xa G (100 + t))] S (some (.int a)) S := by
  refine xR_ct (em := (emi S)) rfl (Nat.le_of_ble_eq_true rfl) ?_
  show xR G yyU_isLatin1 _ 0 [(0, .ref (xa G (100 + t)))] [] _ _
  unfold fU_isLatin1
  refine xR_sgets 0 fl_RJ0_38 dU_isLatin1_0 ?_
  refine xR_ifeq 3 17 dU_isLatin1_3 (by decide) ?_ ?_
  · refine xR_ic 17 (0 : Int32) dU_isLatin1_17 (by decide) ?_
    exact xR_zret 18 rfl rfl dU_isLatin1_18
  · refine xR_aln 6 0 dU_isLatin1_6 rfl rfl ?_
    refine xR_sgetc 7 t ht fl_RJ0_15 dU_isLatin1_7 ?_
    refine xR_ifne 10 17 dU_isLatin1_10 (by decide) ?_ ?_
    · refine xR_ic 17 (0 : Int32) dU_isLatin1_17 (by decide) ?_
      exact xR_zret 18 rfl rfl dU_isLatin1_18
    · refine xR_ic 13 (1 : Int32) dU_isLatin1_13 (by decide) ?_
      refine xR_goto 14 18 dU_isLatin1_14 (by decide) ?_
      exact xR_zret 18 rfl rfl dU_isLatin1_18
theorem dP_checkIndex_0 : decode (xb yyP_checkIndex) 0 = .ok (.iload_n 0, 1) := by decide +kernel
theorem dP_checkIndex_1 : decode (xb yyP_checkIndex) 1 = .ok (.ifCond .lt 8, 3) := by decide +kernel
theorem dP_checkIndex_4 : decode (xb yyP_checkIndex) 4 = .ok (.iload_n 0, 1) := by decide +kernel
theorem dP_checkIndex_5 : decode (xb yyP_checkIndex) 5 = .ok (.iload_n 1, 1) := by decide +kernel
theorem dP_checkIndex_6 : decode (xb yyP_checkIndex) 6 = .ok (.if_icmp .lt 10, 3) := by decide +kernel
theorem dP_checkIndex_9 : decode (xb yyP_checkIndex) 9 = .ok (.aload_n 2, 1) := by decide +kernel
theorem dP_checkIndex_10 : decode (xb yyP_checkIndex) 10 = .ok (.iload_n 0, 1) := by decide +kernel
theorem dP_checkIndex_11 : decode (xb yyP_checkIndex) 11 = .ok (.iload_n 1, 1) := by decide +kernel
theorem dP_checkIndex_12 : decode (xb yyP_checkIndex) 12 = .ok (.invokestatic 95, 3) := by decide +kernel
theorem dP_checkIndex_15 : decode (xb yyP_checkIndex) 15 = .ok (.athrow, 1) := by decide +kernel
theorem dP_checkIndex_16 : decode (xb yyP_checkIndex) 16 = .ok (.iload_n 0, 1) := by decide +kernel
theorem dP_checkIndex_17 : decode (xb yyP_checkIndex) 17 = .ok (.ireturn, 1) := by decide +kernel
def fP_checkIndex (v0 : Int32) (v1 : Int32) : Option (Int32) := (if v0 < 0 then none else (if v0 < v1 then some v0 else none))
theorem kP_checkIndex (G : xG) (S : xS) (v0 : Int32) (v1 : Int32) (fa : Nat) : ∀ a, fP_checkIndex v0 v1 = some a → xCt G yyP_checkIndex [.int v0, .int v1, .ref fa] S (some (.int a)) S := by
  refine xR_ct (em := (emi S)) rfl (Nat.le_of_ble_eq_true rfl) ?_
  show xR G yyP_checkIndex _ 0 [(0, .int v0), (1, .int v1), (2, .ref fa)] [] _ _
  unfold fP_checkIndex
  refine xR_iln 0 0 dP_checkIndex_0 rfl rfl ?_
  refine xR_iflt 1 9 dP_checkIndex_1 (by decide) xR_none ?_
  refine xR_iln 4 0 dP_checkIndex_4 rfl rfl ?_
  refine xR_iln 5 1 dP_checkIndex_5 rfl rfl ?_
  refine xR_iclt 6 16 dP_checkIndex_6 (by decide) ?_ xR_none
  refine xR_iln 16 0 dP_checkIndex_16 rfl rfl ?_
  exact xR_iret 17 rfl rfl dP_checkIndex_17
theorem kP_checkIndexN (G : xG) (S : xS) (v0 : Int32) (v1 : Int32) : ∀ a, fP_checkIndex v0 v1 = some a → xCt G yyP_checkIndex [.int v0, .int v1, .null] S (some (.int a)) S := by
  refine xR_ct (em := (emi S)) rfl (Nat.le_of_ble_eq_true rfl) ?_
  show xR G yyP_checkIndex _ 0 [(0, .int v0), (1, .int v1), (2, .null)] [] _ _
  unfold fP_checkIndex
  refine xR_iln 0 0 dP_checkIndex_0 rfl rfl ?_
  refine xR_iflt 1 9 dP_checkIndex_1 (by decide) xR_none ?_
  refine xR_iln 4 0 dP_checkIndex_4 rfl rfl ?_
  refine xR_iln 5 1 dP_checkIndex_5 rfl rfl ?_
  refine xR_iclt 6 16 dP_checkIndex_6 (by decide) ?_ xR_none
  refine xR_iln 16 0 dP_checkIndex_16 rfl rfl ?_
  exact xR_iret 17 rfl rfl dP_checkIndex_17
theorem dU_checkIndex_0 : decode (xb yyU_checkIndex) 0 = .ok (.iload_n 0, 1) := by decide +kernel
theorem dU_checkIndex_1 : decode (xb yyU_checkIndex) 1 = .ok (.iload_n 1, 1) := by decide +kernel
theorem dU_checkIndex_2 : decode (xb yyU_checkIndex) 2 = .ok (.getstatic 1053, 3) := by decide +kernel
theorem dU_checkIndex_5 : decode (xb yyU_checkIndex) 5 = .ok (.invokestatic 1059, 3) := by decide +kernel
theorem dU_checkIndex_8 : decode (xb yyU_checkIndex) 8 = .ok (.pop, 1) := by decide +kernel
theorem dU_checkIndex_9 : decode (xb yyU_checkIndex) 9 = .ok (.return_, 1) := by decide +kernel
def fU_checkIndex (v0 : Int32) (v1 : Int32) : Option (Unit) := (fP_checkIndex v0 v1).bind fun _ => some ()
theorem kU_checkIndex (G : xG) (S : xS) (v0 : Int32) (v1 : Int32) : ∀ a, fU_checkIndex v0 v1 = some a → xCt G yyU_checkIndex [.int v0, .int v1] S none S := by
  refine xR_ct (em := (emu S)) rfl (Nat.le_of_ble_eq_true rfl) ?_
  show xR G yyU_checkIndex _ 0 [(0, .int v0), (1, .int v1)] [] _ _
  unfold fU_checkIndex
  refine xR_iln 0 0 dU_checkIndex_0 rfl rfl ?_
  refine xR_iln 1 1 dU_checkIndex_1 rfl rfl ?_
  refine xR_sgetf 2 fl_RJ0_1053 dU_checkIndex_2 (fun v hv => ?_)
  rcases hv with rfl | ⟨fa, rfl⟩
  · refine xR_callSi 5 cs_P_checkIndex ml_RJ0_1059 ⟨Nat.le_of_ble_eq_true rfl, Nat.le_of_ble_eq_true rfl⟩ [.int v0, .int v1, .null] rfl rfl (Nat.le_of_ble_eq_true rfl) dU_checkIndex_5 (kP_checkIndexN G S v0 v1) (fun r5 => ?_)
    refine xR_pop 8 dU_checkIndex_8 rfl ?_
    exact xR_vret 9 rfl rfl dU_checkIndex_9
  · refine xR_callSi 5 cs_P_checkIndex ml_RJ0_1059 ⟨Nat.le_of_ble_eq_true rfl, Nat.le_of_ble_eq_true rfl⟩ [.int v0, .int v1, .ref fa] rfl rfl (Nat.le_of_ble_eq_true rfl) dU_checkIndex_5 (kP_checkIndex G S v0 v1 fa) (fun r5 => ?_)
    refine xR_pop 8 dU_checkIndex_8 rfl ?_
    exact xR_vret 9 rfl rfl dU_checkIndex_9
theorem dL_charAt_0 : decode (xb yyL_charAt) 0 = .ok (.iload_n 1, 1) := by decide +kernel
theorem dL_charAt_1 : decode (xb yyL_charAt) 1 = .ok (.aload_n 0, 1) := by decide +kernel
theorem dL_charAt_2 : decode (xb yyL_charAt) 2 = .ok (.arraylength, 1) := by decide +kernel
theorem dL_charAt_3 : decode (xb yyL_charAt) 3 = .ok (.invokestatic 9, 3) := by decide +kernel
theorem dL_charAt_6 : decode (xb yyL_charAt) 6 = .ok (.aload_n 0, 1) := by decide +kernel
theorem dL_charAt_7 : decode (xb yyL_charAt) 7 = .ok (.iload_n 1, 1) := by decide +kernel
theorem dL_charAt_8 : decode (xb yyL_charAt) 8 = .ok (.baload, 1) := by decide +kernel
theorem dL_charAt_9 : decode (xb yyL_charAt) 9 = .ok (.sipush 255, 3) := by decide +kernel
theorem dL_charAt_12 : decode (xb yyL_charAt) 12 = .ok (.iand, 1) := by decide +kernel
theorem dL_charAt_13 : decode (xb yyL_charAt) 13 = .ok (.i2c, 1) := by decide +kernel
theorem dL_charAt_14 : decode (xb yyL_charAt) 14 = .ok (.ireturn, 1) := by decide +kernel
def fL_charAt (t0 : Nat) (v1 : Int32) : Option (Int32) := (fU_checkIndex v1 (Int32.ofNat (xlS.getD t0 0))).bind fun r3 => xck (xlS.getD t0 0) v1 (some (vp_nar .char (((((xbS.getD t0 []).getD v1.toNatClampNeg 0) &&& (255 : Int32))).toUInt32 % 65536).toInt32))
set_option maxRecDepth 100000 in
set_option maxHeartbeats 4000000 in
theorem kL_charAt (G : xG) (t0 : Nat) (ht0 : t0 < 7) (S : xS)  (v1 : Int32) : ∀ a, fL_charAt t0 v1 = some a → xCt G yyL_charAt [.ref (xa G (200 + t0)), .int v1] S (some (.int a)) S := by
  refine xR_ct (em := (emi S)) rfl (Nat.le_of_ble_eq_true rfl) ?_
  show xR G yyL_charAt _ 0 [(0, .ref (xa G (200 + t0))), (1, .int v1)] [] _ _
  unfold fL_charAt
  refine xR_iln 0 1 dL_charAt_0 rfl rfl ?_
  refine xR_aln 1 0 dL_charAt_1 rfl rfl ?_
  refine xR_salen 2 t0 ht0 dL_charAt_2 ?_
  refine xR_callSu 3 cs_U_checkIndex ml_RJ1_9 ⟨Nat.le_of_ble_eq_true rfl, Nat.le_of_ble_eq_true rfl⟩ [.int v1, .int (Int32.ofNat (xlS.getD t0 0))] rfl rfl (Nat.le_of_ble_eq_true rfl) dL_charAt_3 (kU_checkIndex G S v1 (Int32.ofNat (xlS.getD t0 0))) (fun r3 => ?_)
  refine xR_aln 6 0 dL_charAt_6 rfl rfl ?_
  refine xR_iln 7 1 dL_charAt_7 rfl rfl ?_
  refine xR_sbald 8 t0 ht0 dL_charAt_8 ?_
  refine xR_sp 9 (255 : Int32) dL_charAt_9 (by decide) ?_
  refine xR_iand 12 dL_charAt_12 ?_
  refine xR_i2c 13 dL_charAt_13 ?_
  exact xR_nret 14 .char (by decide) rfl rfl dL_charAt_14
theorem dU_charAt_0 : decode (xb yyU_charAt) 0 = .ok (.aload_n 0, 1) := by decide +kernel
theorem dU_charAt_1 : decode (xb yyU_charAt) 1 = .ok (.invokevirtual 492, 3) := by decide +kernel
theorem dU_charAt_4 : decode (xb yyU_charAt) 4 = .ok (.ifCond .eq 12, 3) := by decide +kernel
theorem dU_charAt_7 : decode (xb yyU_charAt) 7 = .ok (.aload_n 0, 1) := by decide +kernel
theorem dU_charAt_8 : decode (xb yyU_charAt) 8 = .ok (.getfield 9, 3) := by decide +kernel
theorem dU_charAt_11 : decode (xb yyU_charAt) 11 = .ok (.iload_n 1, 1) := by decide +kernel
theorem dU_charAt_12 : decode (xb yyU_charAt) 12 = .ok (.invokestatic 495, 3) := by decide +kernel
theorem dU_charAt_15 : decode (xb yyU_charAt) 15 = .ok (.ireturn, 1) := by decide +kernel
theorem dU_charAt_16 : decode (xb yyU_charAt) 16 = .ok (.aload_n 0, 1) := by decide +kernel
theorem dU_charAt_17 : decode (xb yyU_charAt) 17 = .ok (.getfield 9, 3) := by decide +kernel
theorem dU_charAt_20 : decode (xb yyU_charAt) 20 = .ok (.iload_n 1, 1) := by decide +kernel
theorem dU_charAt_21 : decode (xb yyU_charAt) 21 = .ok (.invokestatic 498, 3) := by decide +kernel
def fU_charAt (t : Nat) (v1 : Int32) : Option (Int32) := (fU_isLatin1 t).bind fun r1 => (if r1 = 0 then none else (fL_charAt t v1).bind fun r12 => some (vp_nar .char r12))
set_option maxRecDepth 100000 in
set_option maxHeartbeats 4000000 in
theorem kU_charAt (G : xG) (t : Nat) (ht : t < 7) (S : xS)  (v1 : Int32) : ∀ a, fU_charAt t v1 = some a → xCt G yyU_charAt [.ref (xa G (100 + t)), .int v1] S (some (.int a)) S := by
  refine xR_ct (em := (emi S)) rfl (Nat.le_of_ble_eq_true rfl) ?_
  show xR G yyU_charAt _ 0 [(0, .ref (xa G (100 + t))), (1, .int v1)] [] _ _
  unfold fU_charAt
  refine xR_aln 0 0 dU_charAt_0 rfl rfl ?_
  refine xR_callQi 1 cv_U_isLatin1 ml_RJ0_492 ⟨Nat.le_of_ble_eq_true rfl, Nat.le_of_ble_eq_true rfl⟩ rfl t ht [] rfl rfl (Nat.le_of_ble_eq_true rfl) dU_charAt_1 (kU_isLatin1 G t ht S) (fun r1 => ?_)
  refine xR_ifeq 4 16 dU_charAt_4 (by decide) ?_ ?_
  · refine xR_aln 16 0 dU_charAt_16 rfl rfl ?_
    refine xR_sgetv 17 t ht fl_RJ0_9 dU_charAt_17 ?_
    refine xR_iln 20 1 dU_charAt_20 rfl rfl ?_
    exact xR_none
  · refine xR_aln 7 0 dU_charAt_7 rfl rfl ?_
    refine xR_sgetv 8 t ht fl_RJ0_9 dU_charAt_8 ?_
    refine xR_iln 11 1 dU_charAt_11 rfl rfl ?_
    refine xR_callSi 12 cs_L_charAt ml_RJ0_495 ⟨Nat.le_of_ble_eq_true rfl, Nat.le_of_ble_eq_true rfl⟩ [.ref (xa G (200 + t)), .int v1] rfl rfl (Nat.le_of_ble_eq_true rfl) dU_charAt_12 (kL_charAt G t ht S v1) (fun r12 => ?_)
    exact xR_nret 15 .char (by decide) rfl rfl dU_charAt_15
theorem dJ_bitCount_0 : decode (xb yyJ_bitCount) 0 = .ok (.iload_n 0, 1) := by decide +kernel
theorem dJ_bitCount_1 : decode (xb yyJ_bitCount) 1 = .ok (.iload_n 0, 1) := by decide +kernel
theorem dJ_bitCount_2 : decode (xb yyJ_bitCount) 2 = .ok (.iconst 1, 1) := by decide +kernel
theorem dJ_bitCount_3 : decode (xb yyJ_bitCount) 3 = .ok (.iushr, 1) := by decide +kernel
theorem dJ_bitCount_4 : decode (xb yyJ_bitCount) 4 = .ok (.ldc_w 265, 3) := by decide +kernel
theorem dJ_bitCount_7 : decode (xb yyJ_bitCount) 7 = .ok (.iand, 1) := by decide +kernel
theorem dJ_bitCount_8 : decode (xb yyJ_bitCount) 8 = .ok (.isub, 1) := by decide +kernel
theorem dJ_bitCount_9 : decode (xb yyJ_bitCount) 9 = .ok (.istore_n 0, 1) := by decide +kernel
theorem dJ_bitCount_10 : decode (xb yyJ_bitCount) 10 = .ok (.iload_n 0, 1) := by decide +kernel
theorem dJ_bitCount_11 : decode (xb yyJ_bitCount) 11 = .ok (.ldc_w 266, 3) := by decide +kernel
theorem dJ_bitCount_14 : decode (xb yyJ_bitCount) 14 = .ok (.iand, 1) := by decide +kernel
theorem dJ_bitCount_15 : decode (xb yyJ_bitCount) 15 = .ok (.iload_n 0, 1) := by decide +kernel
theorem dJ_bitCount_16 : decode (xb yyJ_bitCount) 16 = .ok (.iconst 2, 1) := by decide +kernel
theorem dJ_bitCount_17 : decode (xb yyJ_bitCount) 17 = .ok (.iushr, 1) := by decide +kernel
theorem dJ_bitCount_18 : decode (xb yyJ_bitCount) 18 = .ok (.ldc_w 266, 3) := by decide +kernel
theorem dJ_bitCount_21 : decode (xb yyJ_bitCount) 21 = .ok (.iand, 1) := by decide +kernel
theorem dJ_bitCount_22 : decode (xb yyJ_bitCount) 22 = .ok (.iadd, 1) := by decide +kernel
theorem dJ_bitCount_23 : decode (xb yyJ_bitCount) 23 = .ok (.istore_n 0, 1) := by decide +kernel
theorem dJ_bitCount_24 : decode (xb yyJ_bitCount) 24 = .ok (.iload_n 0, 1) := by decide +kernel
theorem dJ_bitCount_25 : decode (xb yyJ_bitCount) 25 = .ok (.iload_n 0, 1) := by decide +kernel
theorem dJ_bitCount_26 : decode (xb yyJ_bitCount) 26 = .ok (.iconst 4, 1) := by decide +kernel
theorem dJ_bitCount_27 : decode (xb yyJ_bitCount) 27 = .ok (.iushr, 1) := by decide +kernel
theorem dJ_bitCount_28 : decode (xb yyJ_bitCount) 28 = .ok (.iadd, 1) := by decide +kernel
theorem dJ_bitCount_29 : decode (xb yyJ_bitCount) 29 = .ok (.ldc_w 267, 3) := by decide +kernel
theorem dJ_bitCount_32 : decode (xb yyJ_bitCount) 32 = .ok (.iand, 1) := by decide +kernel
theorem dJ_bitCount_33 : decode (xb yyJ_bitCount) 33 = .ok (.istore_n 0, 1) := by decide +kernel
theorem dJ_bitCount_34 : decode (xb yyJ_bitCount) 34 = .ok (.iload_n 0, 1) := by decide +kernel
theorem dJ_bitCount_35 : decode (xb yyJ_bitCount) 35 = .ok (.iload_n 0, 1) := by decide +kernel
theorem dJ_bitCount_36 : decode (xb yyJ_bitCount) 36 = .ok (.bipush 8, 2) := by decide +kernel
theorem dJ_bitCount_38 : decode (xb yyJ_bitCount) 38 = .ok (.iushr, 1) := by decide +kernel
theorem dJ_bitCount_39 : decode (xb yyJ_bitCount) 39 = .ok (.iadd, 1) := by decide +kernel
theorem dJ_bitCount_40 : decode (xb yyJ_bitCount) 40 = .ok (.istore_n 0, 1) := by decide +kernel
theorem dJ_bitCount_41 : decode (xb yyJ_bitCount) 41 = .ok (.iload_n 0, 1) := by decide +kernel
theorem dJ_bitCount_42 : decode (xb yyJ_bitCount) 42 = .ok (.iload_n 0, 1) := by decide +kernel
theorem dJ_bitCount_43 : decode (xb yyJ_bitCount) 43 = .ok (.bipush 16, 2) := by decide +kernel
theorem dJ_bitCount_45 : decode (xb yyJ_bitCount) 45 = .ok (.iushr, 1) := by decide +kernel
theorem dJ_bitCount_46 : decode (xb yyJ_bitCount) 46 = .ok (.iadd, 1) := by decide +kernel
theorem dJ_bitCount_47 : decode (xb yyJ_bitCount) 47 = .ok (.istore_n 0, 1) := by decide +kernel
theorem dJ_bitCount_48 : decode (xb yyJ_bitCount) 48 = .ok (.iload_n 0, 1) := by decide +kernel
theorem dJ_bitCount_49 : decode (xb yyJ_bitCount) 49 = .ok (.bipush 63, 2) := by decide +kernel
theorem dJ_bitCount_51 : decode (xb yyJ_bitCount) 51 = .ok (.iand, 1) := by decide +kernel
theorem dJ_bitCount_52 : decode (xb yyJ_bitCount) 52 = .ok (.ireturn, 1) := by decide +kernel
def fJ_bitCount  (v0 : Int32) : Option (Int32) := some ((((((((v0 - ((v0.toUInt32 >>> ((1 : Int32).toUInt32 &&& Int32.toUInt32 31)).toInt32 &&& (1431655765 : Int32))) &&& (858993459 : Int32)) + (((v0 - ((v0.toUInt32 >>> ((1 : Int32).toUInt32 &&& Int32.toUInt32 31)).toInt32 &&& (1431655765 : Int32))).toUInt32 >>> ((2 : Int32).toUInt32 &&& Int32.toUInt32 31)).toInt32 &&& (858993459 : Int32))) + ((((v0 - ((v0.toUInt32 >>> ((1 : Int32).toUInt32 &&& Int32.toUInt32 31)).toInt32 &&& (1431655765 : Int32))) &&& (858993459 : Int32)) + (((v0 - ((v0.toUInt32 >>> ((1 : Int32).toUInt32 &&& Int32.toUInt32 31)).toInt32 &&& (1431655765 : Int32))).toUInt32 >>> ((2 : Int32).toUInt32 &&& Int32.toUInt32 31)).toInt32 &&& (858993459 : Int32))).toUInt32 >>> ((4 : Int32).toUInt32 &&& Int32.toUInt32 31)).toInt32) &&& (252645135 : Int32)) + ((((((v0 - ((v0.toUInt32 >>> ((1 : Int32).toUInt32 &&& Int32.toUInt32 31)).toInt32 &&& (1431655765 : Int32))) &&& (858993459 : Int32)) + (((v0 - ((v0.toUInt32 >>> ((1 : Int32).toUInt32 &&& Int32.toUInt32 31)).toInt32 &&& (1431655765 : Int32))).toUInt32 >>> ((2 : Int32).toUInt32 &&& Int32.toUInt32 31)).toInt32 &&& (858993459 : Int32))) + ((((v0 - ((v0.toUInt32 >>> ((1 : Int32).toUInt32 &&& Int32.toUInt32 31)).toInt32 &&& (1431655765 : Int32))) &&& (858993459 : Int32)) + (((v0 - ((v0.toUInt32 >>> ((1 : Int32).toUInt32 &&& Int32.toUInt32 31)).toInt32 &&& (1431655765 : Int32))).toUInt32 >>> ((2 : Int32).toUInt32 &&& Int32.toUInt32 31)).toInt32 &&& (858993459 : Int32))).toUInt32 >>> ((4 : Int32).toUInt32 &&& Int32.toUInt32 31)).toInt32) &&& (252645135 : Int32)).toUInt32 >>> ((8 : Int32).toUInt32 &&& Int32.toUInt32 31)).toInt32) + (((((((v0 - ((v0.toUInt32 >>> ((1 : Int32).toUInt32 &&& Int32.toUInt32 31)).toInt32 &&& (1431655765 : Int32))) &&& (858993459 : Int32)) + (((v0 - ((v0.toUInt32 >>> ((1 : Int32).toUInt32 &&& Int32.toUInt32 31)).toInt32 &&& (1431655765 : Int32))).toUInt32 >>> ((2 : Int32).toUInt32 &&& Int32.toUInt32 31)).toInt32 &&& (858993459 : Int32))) + ((((v0 - ((v0.toUInt32 >>> ((1 : Int32).toUInt32 &&& Int32.toUInt32 31)).toInt32 &&& (1431655765 : Int32))) &&& (858993459 : Int32)) + (((v0 - ((v0.toUInt32 >>> ((1 : Int32).toUInt32 &&& Int32.toUInt32 31)).toInt32 &&& (1431655765 : Int32))).toUInt32 >>> ((2 : Int32).toUInt32 &&& Int32.toUInt32 31)).toInt32 &&& (858993459 : Int32))).toUInt32 >>> ((4 : Int32).toUInt32 &&& Int32.toUInt32 31)).toInt32) &&& (252645135 : Int32)) + ((((((v0 - ((v0.toUInt32 >>> ((1 : Int32).toUInt32 &&& Int32.toUInt32 31)).toInt32 &&& (1431655765 : Int32))) &&& (858993459 : Int32)) + (((v0 - ((v0.toUInt32 >>> ((1 : Int32).toUInt32 &&& Int32.toUInt32 31)).toInt32 &&& (1431655765 : Int32))).toUInt32 >>> ((2 : Int32).toUInt32 &&& Int32.toUInt32 31)).toInt32 &&& (858993459 : Int32))) + ((((v0 - ((v0.toUInt32 >>> ((1 : Int32).toUInt32 &&& Int32.toUInt32 31)).toInt32 &&& (1431655765 : Int32))) &&& (858993459 : Int32)) + (((v0 - ((v0.toUInt32 >>> ((1 : Int32).toUInt32 &&& Int32.toUInt32 31)).toInt32 &&& (1431655765 : Int32))).toUInt32 >>> ((2 : Int32).toUInt32 &&& Int32.toUInt32 31)).toInt32 &&& (858993459 : Int32))).toUInt32 >>> ((4 : Int32).toUInt32 &&& Int32.toUInt32 31)).toInt32) &&& (252645135 : Int32)).toUInt32 >>> ((8 : Int32).toUInt32 &&& Int32.toUInt32 31)).toInt32).toUInt32 >>> ((16 : Int32).toUInt32 &&& Int32.toUInt32 31)).toInt32) &&& (63 : Int32))
set_option maxRecDepth 100000 in
set_option maxHeartbeats 4000000 in
theorem kJ_bitCount (G : xG)   (S : xS)  (v0 : Int32) : ∀ a, fJ_bitCount  v0 = some a → xCt G yyJ_bitCount [.int v0] S (some (.int a)) S := by
  refine xR_ct (em := (emi S)) rfl (Nat.le_of_ble_eq_true rfl) ?_
  show xR G yyJ_bitCount _ 0 [(0, .int v0)] [] _ _
  unfold fJ_bitCount
  refine xR_iln 0 0 dJ_bitCount_0 rfl rfl ?_
  refine xR_iln 1 0 dJ_bitCount_1 rfl rfl ?_
  refine xR_ic 2 (1 : Int32) dJ_bitCount_2 (by decide) ?_
  refine xR_iushr 3 dJ_bitCount_3 ?_
  refine xR_ldcw 4 ci_RJ6_265 dJ_bitCount_4 ?_
  refine xR_iand 7 dJ_bitCount_7 ?_
  refine xR_isub 8 dJ_bitCount_8 ?_
  refine xR_isn 9 ([(0, .int (v0 - ((v0.toUInt32 >>> ((1 : Int32).toUInt32 &&& Int32.toUInt32 31)).toInt32 &&& (1431655765 : Int32))))]) dJ_bitCount_9 rfl (by decide) rfl ?_
  refine xR_iln 10 0 dJ_bitCount_10 rfl rfl ?_
  refine xR_ldcw 11 ci_RJ6_266 dJ_bitCount_11 ?_
  refine xR_iand 14 dJ_bitCount_14 ?_
  refine xR_iln 15 0 dJ_bitCount_15 rfl rfl ?_
  refine xR_ic 16 (2 : Int32) dJ_bitCount_16 (by decide) ?_
  refine xR_iushr 17 dJ_bitCount_17 ?_
  refine xR_ldcw 18 ci_RJ6_266 dJ_bitCount_18 ?_
  refine xR_iand 21 dJ_bitCount_21 ?_
  refine xR_iadd 22 dJ_bitCount_22 ?_
  refine xR_isn 23 ([(0, .int (((v0 - ((v0.toUInt32 >>> ((1 : Int32).toUInt32 &&& Int32.toUInt32 31)).toInt32 &&& (1431655765 : Int32))) &&& (858993459 : Int32)) + (((v0 - ((v0.toUInt32 >>> ((1 : Int32).toUInt32 &&& Int32.toUInt32 31)).toInt32 &&& (1431655765 : Int32))).toUInt32 >>> ((2 : Int32).toUInt32 &&& Int32.toUInt32 31)).toInt32 &&& (858993459 : Int32))))]) dJ_bitCount_23 rfl (by decide) rfl ?_
  refine xR_iln 24 0 dJ_bitCount_24 rfl rfl ?_
  refine xR_iln 25 0 dJ_bitCount_25 rfl rfl ?_
  refine xR_ic 26 (4 : Int32) dJ_bitCount_26 (by decide) ?_
  refine xR_iushr 27 dJ_bitCount_27 ?_
  refine xR_iadd 28 dJ_bitCount_28 ?_
  refine xR_ldcw 29 ci_RJ6_267 dJ_bitCount_29 ?_
  refine xR_iand 32 dJ_bitCount_32 ?_
  refine xR_isn 33 ([(0, .int (((((v0 - ((v0.toUInt32 >>> ((1 : Int32).toUInt32 &&& Int32.toUInt32 31)).toInt32 &&& (1431655765 : Int32))) &&& (858993459 : Int32)) + (((v0 - ((v0.toUInt32 >>> ((1 : Int32).toUInt32 &&& Int32.toUInt32 31)).toInt32 &&& (1431655765 : Int32))).toUInt32 >>> ((2 : Int32).toUInt32 &&& Int32.toUInt32 31)).toInt32 &&& (858993459 : Int32))) + ((((v0 - ((v0.toUInt32 >>> ((1 : Int32).toUInt32 &&& Int32.toUInt32 31)).toInt32 &&& (1431655765 : Int32))) &&& (858993459 : Int32)) + (((v0 - ((v0.toUInt32 >>> ((1 : Int32).toUInt32 &&& Int32.toUInt32 31)).toInt32 &&& (1431655765 : Int32))).toUInt32 >>> ((2 : Int32).toUInt32 &&& Int32.toUInt32 31)).toInt32 &&& (858993459 : Int32))).toUInt32 >>> ((4 : Int32).toUInt32 &&& Int32.toUInt32 31)).toInt32) &&& (252645135 : Int32)))]) dJ_bitCount_33 rfl (by decide) rfl ?_
  refine xR_iln 34 0 dJ_bitCount_34 rfl rfl ?_
  refine xR_iln 35 0 dJ_bitCount_35 rfl rfl ?_
  refine xR_bp 36 (8 : Int32) dJ_bitCount_36 (by decide) ?_
  refine xR_iushr 38 dJ_bitCount_38 ?_
  refine xR_iadd 39 dJ_bitCount_39 ?_
  refine xR_isn 40 ([(0, .int ((((((v0 - ((v0.toUInt32 >>> ((1 : Int32).toUInt32 &&& Int32.toUInt32 31)).toInt32 &&& (1431655765 : Int32))) &&& (858993459 : Int32)) + (((v0 - ((v0.toUInt32 >>> ((1 : Int32).toUInt32 &&& Int32.toUInt32 31)).toInt32 &&& (1431655765 : Int32))).toUInt32 >>> ((2 : Int32).toUInt32 &&& Int32.toUInt32 31)).toInt32 &&& (858993459 : Int32))) + ((((v0 - ((v0.toUInt32 >>> ((1 : Int32).toUInt32 &&& Int32.toUInt32 31)).toInt32 &&& (1431655765 : Int32))) &&& (858993459 : Int32)) + (((v0 - ((v0.toUInt32 >>> ((1 : Int32).toUInt32 &&& Int32.toUInt32 31)).toInt32 &&& (1431655765 : Int32))).toUInt32 >>> ((2 : Int32).toUInt32 &&& Int32.toUInt32 31)).toInt32 &&& (858993459 : Int32))).toUInt32 >>> ((4 : Int32).toUInt32 &&& Int32.toUInt32 31)).toInt32) &&& (252645135 : Int32)) + ((((((v0 - ((v0.toUInt32 >>> ((1 : Int32).toUInt32 &&& Int32.toUInt32 31)).toInt32 &&& (1431655765 : Int32))) &&& (858993459 : Int32)) + (((v0 - ((v0.toUInt32 >>> ((1 : Int32).toUInt32 &&& Int32.toUInt32 31)).toInt32 &&& (1431655765 : Int32))).toUInt32 >>> ((2 : Int32).toUInt32 &&& Int32.toUInt32 31)).toInt32 &&& (858993459 : Int32))) + ((((v0 - ((v0.toUInt32 >>> ((1 : Int32).toUInt32 &&& Int32.toUInt32 31)).toInt32 &&& (1431655765 : Int32))) &&& (858993459 : Int32)) + (((v0 - ((v0.toUInt32 >>> ((1 : Int32).toUInt32 &&& Int32.toUInt32 31)).toInt32 &&& (1431655765 : Int32))).toUInt32 >>> ((2 : Int32).toUInt32 &&& Int32.toUInt32 31)).toInt32 &&& (858993459 : Int32))).toUInt32 >>> ((4 : Int32).toUInt32 &&& Int32.toUInt32 31)).toInt32) &&& (252645135 : Int32)).toUInt32 >>> ((8 : Int32).toUInt32 &&& Int32.toUInt32 31)).toInt32))]) dJ_bitCount_40 rfl (by decide) rfl ?_
  refine xR_iln 41 0 dJ_bitCount_41 rfl rfl ?_
  refine xR_iln 42 0 dJ_bitCount_42 rfl rfl ?_
  refine xR_bp 43 (16 : Int32) dJ_bitCount_43 (by decide) ?_
  refine xR_iushr 45 dJ_bitCount_45 ?_
  refine xR_iadd 46 dJ_bitCount_46 ?_
  refine xR_isn 47 ([(0, .int (((((((v0 - ((v0.toUInt32 >>> ((1 : Int32).toUInt32 &&& Int32.toUInt32 31)).toInt32 &&& (1431655765 : Int32))) &&& (858993459 : Int32)) + (((v0 - ((v0.toUInt32 >>> ((1 : Int32).toUInt32 &&& Int32.toUInt32 31)).toInt32 &&& (1431655765 : Int32))).toUInt32 >>> ((2 : Int32).toUInt32 &&& Int32.toUInt32 31)).toInt32 &&& (858993459 : Int32))) + ((((v0 - ((v0.toUInt32 >>> ((1 : Int32).toUInt32 &&& Int32.toUInt32 31)).toInt32 &&& (1431655765 : Int32))) &&& (858993459 : Int32)) + (((v0 - ((v0.toUInt32 >>> ((1 : Int32).toUInt32 &&& Int32.toUInt32 31)).toInt32 &&& (1431655765 : Int32))).toUInt32 >>> ((2 : Int32).toUInt32 &&& Int32.toUInt32 31)).toInt32 &&& (858993459 : Int32))).toUInt32 >>> ((4 : Int32).toUInt32 &&& Int32.toUInt32 31)).toInt32) &&& (252645135 : Int32)) + ((((((v0 - ((v0.toUInt32 >>> ((1 : Int32).toUInt32 &&& Int32.toUInt32 31)).toInt32 &&& (1431655765 : Int32))) &&& (858993459 : Int32)) + (((v0 - ((v0.toUInt32 >>> ((1 : Int32).toUInt32 &&& Int32.toUInt32 31)).toInt32 &&& (1431655765 : Int32))).toUInt32 >>> ((2 : Int32).toUInt32 &&& Int32.toUInt32 31)).toInt32 &&& (858993459 : Int32))) + ((((v0 - ((v0.toUInt32 >>> ((1 : Int32).toUInt32 &&& Int32.toUInt32 31)).toInt32 &&& (1431655765 : Int32))) &&& (858993459 : Int32)) + (((v0 - ((v0.toUInt32 >>> ((1 : Int32).toUInt32 &&& Int32.toUInt32 31)).toInt32 &&& (1431655765 : Int32))).toUInt32 >>> ((2 : Int32).toUInt32 &&& Int32.toUInt32 31)).toInt32 &&& (858993459 : Int32))).toUInt32 >>> ((4 : Int32).toUInt32 &&& Int32.toUInt32 31)).toInt32) &&& (252645135 : Int32)).toUInt32 >>> ((8 : Int32).toUInt32 &&& Int32.toUInt32 31)).toInt32) + (((((((v0 - ((v0.toUInt32 >>> ((1 : Int32).toUInt32 &&& Int32.toUInt32 31)).toInt32 &&& (1431655765 : Int32))) &&& (858993459 : Int32)) + (((v0 - ((v0.toUInt32 >>> ((1 : Int32).toUInt32 &&& Int32.toUInt32 31)).toInt32 &&& (1431655765 : Int32))).toUInt32 >>> ((2 : Int32).toUInt32 &&& Int32.toUInt32 31)).toInt32 &&& (858993459 : Int32))) + ((((v0 - ((v0.toUInt32 >>> ((1 : Int32).toUInt32 &&& Int32.toUInt32 31)).toInt32 &&& (1431655765 : Int32))) &&& (858993459 : Int32)) + (((v0 - ((v0.toUInt32 >>> ((1 : Int32).toUInt32 &&& Int32.toUInt32 31)).toInt32 &&& (1431655765 : Int32))).toUInt32 >>> ((2 : Int32).toUInt32 &&& Int32.toUInt32 31)).toInt32 &&& (858993459 : Int32))).toUInt32 >>> ((4 : Int32).toUInt32 &&& Int32.toUInt32 31)).toInt32) &&& (252645135 : Int32)) + ((((((v0 - ((v0.toUInt32 >>> ((1 : Int32).toUInt32 &&& Int32.toUInt32 31)).toInt32 &&& (1431655765 : Int32))) &&& (858993459 : Int32)) + (((v0 - ((v0.toUInt32 >>> ((1 : Int32).toUInt32 &&& Int32.toUInt32 31)).toInt32 &&& (1431655765 : Int32))).toUInt32 >>> ((2 : Int32).toUInt32 &&& Int32.toUInt32 31)).toInt32 &&& (858993459 : Int32))) + ((((v0 - ((v0.toUInt32 >>> ((1 : Int32).toUInt32 &&& Int32.toUInt32 31)).toInt32 &&& (1431655765 : Int32))) &&& (858993459 : Int32)) + (((v0 - ((v0.toUInt32 >>> ((1 : Int32).toUInt32 &&& Int32.toUInt32 31)).toInt32 &&& (1431655765 : Int32))).toUInt32 >>> ((2 : Int32).toUInt32 &&& Int32.toUInt32 31)).toInt32 &&& (858993459 : Int32))).toUInt32 >>> ((4 : Int32).toUInt32 &&& Int32.toUInt32 31)).toInt32) &&& (252645135 : Int32)).toUInt32 >>> ((8 : Int32).toUInt32 &&& Int32.toUInt32 31)).toInt32).toUInt32 >>> ((16 : Int32).toUInt32 &&& Int32.toUInt32 31)).toInt32))]) dJ_bitCount_47 rfl (by decide) rfl ?_
  refine xR_iln 48 0 dJ_bitCount_48 rfl rfl ?_
  refine xR_bp 49 (63 : Int32) dJ_bitCount_49 (by decide) ?_
  refine xR_iand 51 dJ_bitCount_51 ?_
  exact xR_iret 52 rfl rfl dJ_bitCount_52
theorem dT_become_0 : decode (xb yyT_become) 0 = .ok (.aload_n 1, 1) := by decide +kernel
theorem dT_become_1 : decode (xb yyT_become) 1 = .ok (.getfield 24, 3) := by decide +kernel
theorem dT_become_4 : decode (xb yyT_become) 4 = .ok (.iconst 0, 1) := by decide +kernel
theorem dT_become_5 : decode (xb yyT_become) 5 = .ok (.aload_n 0, 1) := by decide +kernel
theorem dT_become_6 : decode (xb yyT_become) 6 = .ok (.getfield 24, 3) := by decide +kernel
theorem dT_become_9 : decode (xb yyT_become) 9 = .ok (.iconst 0, 1) := by decide +kernel
theorem dT_become_10 : decode (xb yyT_become) 10 = .ok (.aload_n 0, 1) := by decide +kernel
theorem dT_become_11 : decode (xb yyT_become) 11 = .ok (.getfield 24, 3) := by decide +kernel
theorem dT_become_14 : decode (xb yyT_become) 14 = .ok (.arraylength, 1) := by decide +kernel
theorem dT_become_15 : decode (xb yyT_become) 15 = .ok (.aload_n 1, 1) := by decide +kernel
theorem dT_become_16 : decode (xb yyT_become) 16 = .ok (.getfield 24, 3) := by decide +kernel
theorem dT_become_19 : decode (xb yyT_become) 19 = .ok (.arraylength, 1) := by decide +kernel
theorem dT_become_20 : decode (xb yyT_become) 20 = .ok (.invokestatic 37, 3) := by decide +kernel
theorem dT_become_23 : decode (xb yyT_become) 23 = .ok (.invokestatic 31, 3) := by decide +kernel
theorem dT_become_26 : decode (xb yyT_become) 26 = .ok (.aload_n 0, 1) := by decide +kernel
theorem dT_become_27 : decode (xb yyT_become) 27 = .ok (.aload_n 1, 1) := by decide +kernel
theorem dT_become_28 : decode (xb yyT_become) 28 = .ok (.getfield 28, 3) := by decide +kernel
theorem dT_become_31 : decode (xb yyT_become) 31 = .ok (.aload_n 0, 1) := by decide +kernel
theorem dT_become_32 : decode (xb yyT_become) 32 = .ok (.getfield 15, 3) := by decide +kernel
theorem dT_become_35 : decode (xb yyT_become) 35 = .ok (.invokestatic 37, 3) := by decide +kernel
theorem dT_become_38 : decode (xb yyT_become) 38 = .ok (.putfield 28, 3) := by decide +kernel
theorem dT_become_41 : decode (xb yyT_become) 41 = .ok (.return_, 1) := by decide +kernel
def fT_become (t : Nat) (t1 : Nat) (m : xM) : Option (xM) := xcpy (xlen t1) (xlen t) (0 : Int32) (0 : Int32) (xmin (Int32.ofNat (xlen t)) (Int32.ofNat (xlen t1))) (some (xset (xcpm m t1 t (0 : Int32) (0 : Int32) (xmin (Int32.ofNat (xlen t)) (Int32.ofNat (xlen t1)))) 36 t (xmin ((xcpm m t1 t (0 : Int32) (0 : Int32) (xmin (Int32.ofNat (xlen t)) (Int32.ofNat (xlen t1)))).1 36 t1) (xrows t))))
set_option maxRecDepth 100000 in
set_option maxHeartbeats 4000000 in
theorem kT_become (G : xG) (t : Nat) (t1 : Nat) (ht : t < 36) (ht1 : t1 < 36) (z : xM) (m : xM) : ∀ a, fT_become t t1 m = some a → xCt G yyT_become [.ref (xa G (36 + t)), .ref (xa G (36 + t1))] (m, z) (none) (a, z) := by
  refine xR_ct (em := (emvc z)) rfl (Nat.le_of_ble_eq_true rfl) ?_
  show xR G yyT_become _ 0 [(0, .ref (xa G (36 + t))), (1, .ref (xa G (36 + t1)))] [] _ _
  unfold fT_become
  refine xR_aln 0 1 dT_become_0 rfl rfl ?_
  refine xR_getf 1 xcf3 2 (36 + t1) (by decide) (xk_T ht1) (xC_tab ht1) (v := .ref (xa G t1)) rfl fl_RX4_24 dT_become_1 ?_
  refine xR_ic 4 (0 : Int32) dT_become_4 (by decide) ?_
  refine xR_aln 5 0 dT_become_5 rfl rfl ?_
  refine xR_getf 6 xcf3 2 (36 + t) (by decide) (xk_T ht) (xC_tab ht) (v := .ref (xa G t)) rfl fl_RX4_24 dT_become_6 ?_
  refine xR_ic 9 (0 : Int32) dT_become_9 (by decide) ?_
  refine xR_aln 10 0 dT_become_10 rfl rfl ?_
  refine xR_getf 11 xcf3 2 (36 + t) (by decide) (xk_T ht) (xC_tab ht) (v := .ref (xa G t)) rfl fl_RX4_24 dT_become_11 ?_
  refine xR_alen 14 t (xk_A ht) (xC_arr ht) dT_become_14 ?_
  refine xR_aln 15 1 dT_become_15 rfl rfl ?_
  refine xR_getf 16 xcf3 2 (36 + t1) (by decide) (xk_T ht1) (xC_tab ht1) (v := .ref (xa G t1)) rfl fl_RX4_24 dT_become_16 ?_
  refine xR_alen 19 t1 (xk_A ht1) (xC_arr ht1) dT_become_19 ?_
  refine xR_mmin 20 ml_RX4_37 ⟨Nat.le_of_ble_eq_true rfl, Nat.le_of_ble_eq_true rfl⟩ dT_become_20 ?_
  refine xR_copy 23 ml_RX4_31 t1 t (xk_A ht1) (xk_A ht) (xC_arr ht1) (xC_arr ht) ((xcpm m t1 t (0 : Int32) (0 : Int32) (xmin (Int32.ofNat (xlen t)) (Int32.ofNat (xlen t1)))), z) (xW_copy ht) ⟨Nat.le_of_ble_eq_true rfl, Nat.le_of_ble_eq_true rfl⟩ dT_become_23 ?_
  refine xR_aln 26 0 dT_become_26 rfl rfl ?_
  refine xR_aln 27 1 dT_become_27 rfl rfl ?_
  refine xR_getf 28 xcf3 3 (36 + t1) (by decide) (xk_T ht1) (xC_tab ht1) (v := .int ((xcpm m t1 t (0 : Int32) (0 : Int32) (xmin (Int32.ofNat (xlen t)) (Int32.ofNat (xlen t1)))).1 36 t1)) rfl fl_RX4_28 dT_become_28 ?_
  refine xR_aln 31 0 dT_become_31 rfl rfl ?_
  refine xR_getf 32 xcf3 0 (36 + t) (by decide) (xk_T ht) (xC_tab ht) (v := .int (xrows t)) rfl fl_RX4_15 dT_become_32 ?_
  refine xR_mmin 35 ml_RX4_37 ⟨Nat.le_of_ble_eq_true rfl, Nat.le_of_ble_eq_true rfl⟩ dT_become_35 ?_
  refine xR_putf 38 xcf3 3 (36 + t) (by decide) (xk_T ht) (xC_tab ht) rfl rfl rfl (Nat.le_of_ble_eq_true rfl) ((xset (xcpm m t1 t (0 : Int32) (0 : Int32) (xmin (Int32.ofNat (xlen t)) (Int32.ofNat (xlen t1)))) 36 t (xmin ((xcpm m t1 t (0 : Int32) (0 : Int32) (xmin (Int32.ofNat (xlen t)) (Int32.ofNat (xlen t1)))).1 36 t1) (xrows t))), z) (xW_used ht) fl_RX4_28 dT_become_38 ?_
  exact xR_vret 41 rfl rfl dT_become_41
theorem dT_dropFirst_0 : decode (xb yyT_dropFirst) 0 = .ok (.aload_n 0, 1) := by decide +kernel
theorem dT_dropFirst_1 : decode (xb yyT_dropFirst) 1 = .ok (.getfield 28, 3) := by decide +kernel
theorem dT_dropFirst_4 : decode (xb yyT_dropFirst) 4 = .ok (.ifCond .le 51, 3) := by decide +kernel
theorem dT_dropFirst_7 : decode (xb yyT_dropFirst) 7 = .ok (.aload_n 0, 1) := by decide +kernel
theorem dT_dropFirst_8 : decode (xb yyT_dropFirst) 8 = .ok (.getfield 21, 3) := by decide +kernel
theorem dT_dropFirst_11 : decode (xb yyT_dropFirst) 11 = .ok (.aload_n 0, 1) := by decide +kernel
theorem dT_dropFirst_12 : decode (xb yyT_dropFirst) 12 = .ok (.getfield 24, 3) := by decide +kernel
theorem dT_dropFirst_15 : decode (xb yyT_dropFirst) 15 = .ok (.arraylength, 1) := by decide +kernel
theorem dT_dropFirst_16 : decode (xb yyT_dropFirst) 16 = .ok (.if_icmp .gt 39, 3) := by decide +kernel
theorem dT_dropFirst_19 : decode (xb yyT_dropFirst) 19 = .ok (.aload_n 0, 1) := by decide +kernel
theorem dT_dropFirst_20 : decode (xb yyT_dropFirst) 20 = .ok (.getfield 24, 3) := by decide +kernel
theorem dT_dropFirst_23 : decode (xb yyT_dropFirst) 23 = .ok (.aload_n 0, 1) := by decide +kernel
theorem dT_dropFirst_24 : decode (xb yyT_dropFirst) 24 = .ok (.getfield 21, 3) := by decide +kernel
theorem dT_dropFirst_27 : decode (xb yyT_dropFirst) 27 = .ok (.aload_n 0, 1) := by decide +kernel
theorem dT_dropFirst_28 : decode (xb yyT_dropFirst) 28 = .ok (.getfield 24, 3) := by decide +kernel
theorem dT_dropFirst_31 : decode (xb yyT_dropFirst) 31 = .ok (.iconst 0, 1) := by decide +kernel
theorem dT_dropFirst_32 : decode (xb yyT_dropFirst) 32 = .ok (.aload_n 0, 1) := by decide +kernel
theorem dT_dropFirst_33 : decode (xb yyT_dropFirst) 33 = .ok (.getfield 24, 3) := by decide +kernel
theorem dT_dropFirst_36 : decode (xb yyT_dropFirst) 36 = .ok (.arraylength, 1) := by decide +kernel
theorem dT_dropFirst_37 : decode (xb yyT_dropFirst) 37 = .ok (.aload_n 0, 1) := by decide +kernel
theorem dT_dropFirst_38 : decode (xb yyT_dropFirst) 38 = .ok (.getfield 21, 3) := by decide +kernel
theorem dT_dropFirst_41 : decode (xb yyT_dropFirst) 41 = .ok (.isub, 1) := by decide +kernel
theorem dT_dropFirst_42 : decode (xb yyT_dropFirst) 42 = .ok (.invokestatic 31, 3) := by decide +kernel
theorem dT_dropFirst_45 : decode (xb yyT_dropFirst) 45 = .ok (.aload_n 0, 1) := by decide +kernel
theorem dT_dropFirst_46 : decode (xb yyT_dropFirst) 46 = .ok (.dup, 1) := by decide +kernel
theorem dT_dropFirst_47 : decode (xb yyT_dropFirst) 47 = .ok (.getfield 28, 3) := by decide +kernel
theorem dT_dropFirst_50 : decode (xb yyT_dropFirst) 50 = .ok (.iconst 1, 1) := by decide +kernel
theorem dT_dropFirst_51 : decode (xb yyT_dropFirst) 51 = .ok (.isub, 1) := by decide +kernel
theorem dT_dropFirst_52 : decode (xb yyT_dropFirst) 52 = .ok (.putfield 28, 3) := by decide +kernel
theorem dT_dropFirst_55 : decode (xb yyT_dropFirst) 55 = .ok (.return_, 1) := by decide +kernel
def fT_dropFirst (t : Nat) (m : xM) : Option (xM) := (if (m.1 36 t) ≤ 0 then some m else (if (Int32.ofNat (xlen t)) < (xwid t) then some m else xcpy (xlen t) (xlen t) (xwid t) (0 : Int32) ((Int32.ofNat (xlen t)) - (xwid t)) (some (xset (xcpm m t t (xwid t) (0 : Int32) ((Int32.ofNat (xlen t)) - (xwid t))) 36 t (((xcpm m t t (xwid t) (0 : Int32) ((Int32.ofNat (xlen t)) - (xwid t))).1 36 t) - (1 : Int32))))))
set_option maxRecDepth 100000 in
set_option maxHeartbeats 4000000 in
theorem kT_dropFirst (G : xG) (t : Nat) (ht : t < 36) (z : xM) (m : xM) : ∀ a, fT_dropFirst t m = some a → xCt G yyT_dropFirst [.ref (xa G (36 + t))] (m, z) (none) (a, z) := by
  refine xR_ct (em := (emvc z)) rfl (Nat.le_of_ble_eq_true rfl) ?_
  show xR G yyT_dropFirst _ 0 [(0, .ref (xa G (36 + t)))] [] _ _
  unfold fT_dropFirst
  refine xR_aln 0 0 dT_dropFirst_0 rfl rfl ?_
  refine xR_getf 1 xcf3 3 (36 + t) (by decide) (xk_T ht) (xC_tab ht) (v := .int (m.1 36 t)) rfl fl_RX4_28 dT_dropFirst_1 ?_
  refine xR_ifle 4 55 dT_dropFirst_4 (by decide) ?_ ?_
  · exact xR_vret 55 rfl rfl dT_dropFirst_55
  · refine xR_aln 7 0 dT_dropFirst_7 rfl rfl ?_
    refine xR_getf 8 xcf3 1 (36 + t) (by decide) (xk_T ht) (xC_tab ht) (v := .int (xwid t)) rfl fl_RX4_21 dT_dropFirst_8 ?_
    refine xR_aln 11 0 dT_dropFirst_11 rfl rfl ?_
    refine xR_getf 12 xcf3 2 (36 + t) (by decide) (xk_T ht) (xC_tab ht) (v := .ref (xa G t)) rfl fl_RX4_24 dT_dropFirst_12 ?_
    refine xR_alen 15 t (xk_A ht) (xC_arr ht) dT_dropFirst_15 ?_
    refine xR_icgt 16 55 dT_dropFirst_16 (by decide) ?_ ?_
    · exact xR_vret 55 rfl rfl dT_dropFirst_55
    · refine xR_aln 19 0 dT_dropFirst_19 rfl rfl ?_
      refine xR_getf 20 xcf3 2 (36 + t) (by decide) (xk_T ht) (xC_tab ht) (v := .ref (xa G t)) rfl fl_RX4_24 dT_dropFirst_20 ?_
      refine xR_aln 23 0 dT_dropFirst_23 rfl rfl ?_
      refine xR_getf 24 xcf3 1 (36 + t) (by decide) (xk_T ht) (xC_tab ht) (v := .int (xwid t)) rfl fl_RX4_21 dT_dropFirst_24 ?_
      refine xR_aln 27 0 dT_dropFirst_27 rfl rfl ?_
      refine xR_getf 28 xcf3 2 (36 + t) (by decide) (xk_T ht) (xC_tab ht) (v := .ref (xa G t)) rfl fl_RX4_24 dT_dropFirst_28 ?_
      refine xR_ic 31 (0 : Int32) dT_dropFirst_31 (by decide) ?_
      refine xR_aln 32 0 dT_dropFirst_32 rfl rfl ?_
      refine xR_getf 33 xcf3 2 (36 + t) (by decide) (xk_T ht) (xC_tab ht) (v := .ref (xa G t)) rfl fl_RX4_24 dT_dropFirst_33 ?_
      refine xR_alen 36 t (xk_A ht) (xC_arr ht) dT_dropFirst_36 ?_
      refine xR_aln 37 0 dT_dropFirst_37 rfl rfl ?_
      refine xR_getf 38 xcf3 1 (36 + t) (by decide) (xk_T ht) (xC_tab ht) (v := .int (xwid t)) rfl fl_RX4_21 dT_dropFirst_38 ?_
      refine xR_isub 41 dT_dropFirst_41 ?_
      refine xR_copy 42 ml_RX4_31 t t (xk_A ht) (xk_A ht) (xC_arr ht) (xC_arr ht) ((xcpm m t t (xwid t) (0 : Int32) ((Int32.ofNat (xlen t)) - (xwid t))), z) (xW_copy ht) ⟨Nat.le_of_ble_eq_true rfl, Nat.le_of_ble_eq_true rfl⟩ dT_dropFirst_42 ?_
      refine xR_aln 45 0 dT_dropFirst_45 rfl rfl ?_
      refine xR_dup 46 dT_dropFirst_46 rfl ?_
      refine xR_getf 47 xcf3 3 (36 + t) (by decide) (xk_T ht) (xC_tab ht) (v := .int ((xcpm m t t (xwid t) (0 : Int32) ((Int32.ofNat (xlen t)) - (xwid t))).1 36 t)) rfl fl_RX4_28 dT_dropFirst_47 ?_
      refine xR_ic 50 (1 : Int32) dT_dropFirst_50 (by decide) ?_
      refine xR_isub 51 dT_dropFirst_51 ?_
      refine xR_putf 52 xcf3 3 (36 + t) (by decide) (xk_T ht) (xC_tab ht) rfl rfl rfl (Nat.le_of_ble_eq_true rfl) ((xset (xcpm m t t (xwid t) (0 : Int32) ((Int32.ofNat (xlen t)) - (xwid t))) 36 t (((xcpm m t t (xwid t) (0 : Int32) ((Int32.ofNat (xlen t)) - (xwid t))).1 36 t) - (1 : Int32))), z) (xW_used ht) fl_RX4_28 dT_dropFirst_52 ?_
      exact xR_vret 55 rfl rfl dT_dropFirst_55
theorem dT_dropLast_0 : decode (xb yyT_dropLast) 0 = .ok (.aload_n 0, 1) := by decide +kernel
theorem dT_dropLast_1 : decode (xb yyT_dropLast) 1 = .ok (.aload_n 0, 1) := by decide +kernel
theorem dT_dropLast_2 : decode (xb yyT_dropLast) 2 = .ok (.getfield 28, 3) := by decide +kernel
theorem dT_dropLast_5 : decode (xb yyT_dropLast) 5 = .ok (.iconst 1, 1) := by decide +kernel
theorem dT_dropLast_6 : decode (xb yyT_dropLast) 6 = .ok (.isub, 1) := by decide +kernel
theorem dT_dropLast_7 : decode (xb yyT_dropLast) 7 = .ok (.iconst 0, 1) := by decide +kernel
theorem dT_dropLast_8 : decode (xb yyT_dropLast) 8 = .ok (.invokestatic 9, 3) := by decide +kernel
theorem dT_dropLast_11 : decode (xb yyT_dropLast) 11 = .ok (.putfield 28, 3) := by decide +kernel
theorem dT_dropLast_14 : decode (xb yyT_dropLast) 14 = .ok (.return_, 1) := by decide +kernel
def fT_dropLast (t : Nat) (m : xM) : Option (xM) := some (xset m 36 t (xmax ((m.1 36 t) - (1 : Int32)) (0 : Int32)))
set_option maxRecDepth 100000 in
set_option maxHeartbeats 4000000 in
theorem kT_dropLast (G : xG) (t : Nat) (ht : t < 36) (z : xM) (m : xM) : ∀ a, fT_dropLast t m = some a → xCt G yyT_dropLast [.ref (xa G (36 + t))] (m, z) (none) (a, z) := by
  refine xR_ct (em := (emvc z)) rfl (Nat.le_of_ble_eq_true rfl) ?_
  show xR G yyT_dropLast _ 0 [(0, .ref (xa G (36 + t)))] [] _ _
  unfold fT_dropLast
  refine xR_aln 0 0 dT_dropLast_0 rfl rfl ?_
  refine xR_aln 1 0 dT_dropLast_1 rfl rfl ?_
  refine xR_getf 2 xcf3 3 (36 + t) (by decide) (xk_T ht) (xC_tab ht) (v := .int (m.1 36 t)) rfl fl_RX4_28 dT_dropLast_2 ?_
  refine xR_ic 5 (1 : Int32) dT_dropLast_5 (by decide) ?_
  refine xR_isub 6 dT_dropLast_6 ?_
  refine xR_ic 7 (0 : Int32) dT_dropLast_7 (by decide) ?_
  refine xR_mmax 8 ml_RX4_9 ⟨Nat.le_of_ble_eq_true rfl, Nat.le_of_ble_eq_true rfl⟩ dT_dropLast_8 ?_
  refine xR_putf 11 xcf3 3 (36 + t) (by decide) (xk_T ht) (xC_tab ht) rfl rfl rfl (Nat.le_of_ble_eq_true rfl) ((xset m 36 t (xmax ((m.1 36 t) - (1 : Int32)) (0 : Int32))), z) (xW_used ht) fl_RX4_28 dT_dropLast_11 ?_
  exact xR_vret 14 rfl rfl dT_dropLast_14
theorem dH_isString_0 : decode (xb yyH_isString) 0 = .ok (.iload_n 0, 1) := by decide +kernel
theorem dH_isString_1 : decode (xb yyH_isString) 1 = .ok (.iconst 0, 1) := by decide +kernel
theorem dH_isString_2 : decode (xb yyH_isString) 2 = .ok (.iconst 3, 1) := by decide +kernel
theorem dH_isString_3 : decode (xb yyH_isString) 3 = .ok (.invokestatic 78, 3) := by decide +kernel
theorem dH_isString_6 : decode (xb yyH_isString) 6 = .ok (.ireturn, 1) := by decide +kernel
def fH_isString  (v0 : Int32) : Option (Int32) := (fH_within v0 (0 : Int32) (3 : Int32)).bind fun r3 => some (xnb r3)
set_option maxRecDepth 100000 in
set_option maxHeartbeats 4000000 in
theorem kH_isString (G : xG)   (S : xS)  (v0 : Int32) : ∀ a, fH_isString  v0 = some a → xCt G yyH_isString [.int v0] S (some (.int a)) S := by
  refine xR_ct (em := (emi S)) rfl (Nat.le_of_ble_eq_true rfl) ?_
  show xR G yyH_isString _ 0 [(0, .int v0)] [] _ _
  unfold fH_isString
  refine xR_iln 0 0 dH_isString_0 rfl rfl ?_
  refine xR_ic 1 (0 : Int32) dH_isString_1 (by decide) ?_
  refine xR_ic 2 (3 : Int32) dH_isString_2 (by decide) ?_
  refine xR_callSi 3 cs_H_within ml_RX8_78 ⟨Nat.le_of_ble_eq_true rfl, Nat.le_of_ble_eq_true rfl⟩ [.int v0, .int (0 : Int32), .int (3 : Int32)] rfl rfl (Nat.le_of_ble_eq_true rfl) dH_isString_3 (kH_within G S v0 (0 : Int32) (3 : Int32)) (fun r3 => ?_)
  exact xR_zret 6 rfl rfl dH_isString_6
theorem dD_door_0 : decode (xb yyD_door) 0 = .ok (.iload_n 0, 1) := by decide +kernel
theorem dD_door_1 : decode (xb yyD_door) 1 = .ok (.iconst 4, 1) := by decide +kernel
theorem dD_door_2 : decode (xb yyD_door) 2 = .ok (.idiv, 1) := by decide +kernel
theorem dD_door_3 : decode (xb yyD_door) 3 = .ok (.bipush 6, 2) := by decide +kernel
theorem dD_door_5 : decode (xb yyD_door) 5 = .ok (.iadd, 1) := by decide +kernel
theorem dD_door_6 : decode (xb yyD_door) 6 = .ok (.iload_n 1, 1) := by decide +kernel
theorem dD_door_7 : decode (xb yyD_door) 7 = .ok (.isub, 1) := by decide +kernel
theorem dD_door_8 : decode (xb yyD_door) 8 = .ok (.iconst 0, 1) := by decide +kernel
theorem dD_door_9 : decode (xb yyD_door) 9 = .ok (.invokestatic 29, 3) := by decide +kernel
theorem dD_door_12 : decode (xb yyD_door) 12 = .ok (.ireturn, 1) := by decide +kernel
def fD_door  (v0 : Int32) (v1 : Int32) : Option (Int32) := some (xmax (((v0 / (4 : Int32)) + (6 : Int32)) - v1) (0 : Int32))
set_option maxRecDepth 100000 in
set_option maxHeartbeats 4000000 in
theorem kD_door (G : xG)   (S : xS)  (v0 : Int32) (v1 : Int32) : ∀ a, fD_door  v0 v1 = some a → xCt G yyD_door [.int v0, .int v1] S (some (.int a)) S := by
  refine xR_ct (em := (emi S)) rfl (Nat.le_of_ble_eq_true rfl) ?_
  show xR G yyD_door _ 0 [(0, .int v0), (1, .int v1)] [] _ _
  unfold fD_door
  refine xR_iln 0 0 dD_door_0 rfl rfl ?_
  refine xR_ic 1 (4 : Int32) dD_door_1 (by decide) ?_
  refine xR_idiv 2 dD_door_2 (by decide) ?_
  refine xR_bp 3 (6 : Int32) dD_door_3 (by decide) ?_
  refine xR_iadd 5 dD_door_5 ?_
  refine xR_iln 6 1 dD_door_6 rfl rfl ?_
  refine xR_isub 7 dD_door_7 ?_
  refine xR_ic 8 (0 : Int32) dD_door_8 (by decide) ?_
  refine xR_mmax 9 ml_RX7_29 ⟨Nat.le_of_ble_eq_true rfl, Nat.le_of_ble_eq_true rfl⟩ dD_door_9 ?_
  exact xR_iret 12 rfl rfl dD_door_12
theorem dD_stair_0 : decode (xb yyD_stair) 0 = .ok (.iload_n 0, 1) := by decide +kernel
theorem dD_stair_1 : decode (xb yyD_stair) 1 = .ok (.iconst 2, 1) := by decide +kernel
theorem dD_stair_2 : decode (xb yyD_stair) 2 = .ok (.if_icmp .ne 9, 3) := by decide +kernel
theorem dD_stair_5 : decode (xb yyD_stair) 5 = .ok (.iload_n 1, 1) := by decide +kernel
theorem dD_stair_6 : decode (xb yyD_stair) 6 = .ok (.iconst 3, 1) := by decide +kernel
theorem dD_stair_7 : decode (xb yyD_stair) 7 = .ok (.iadd, 1) := by decide +kernel
theorem dD_stair_8 : decode (xb yyD_stair) 8 = .ok (.goto 4, 3) := by decide +kernel
theorem dD_stair_11 : decode (xb yyD_stair) 11 = .ok (.iload_n 1, 1) := by decide +kernel
theorem dD_stair_12 : decode (xb yyD_stair) 12 = .ok (.ireturn, 1) := by decide +kernel
def fD_stair  (v0 : Int32) (v1 : Int32) : Option (Int32) := (if v0 = (2 : Int32) then some (v1 + (3 : Int32)) else some v1)
set_option maxRecDepth 100000 in
set_option maxHeartbeats 4000000 in
theorem kD_stair (G : xG)   (S : xS)  (v0 : Int32) (v1 : Int32) : ∀ a, fD_stair  v0 v1 = some a → xCt G yyD_stair [.int v0, .int v1] S (some (.int a)) S := by
  refine xR_ct (em := (emi S)) rfl (Nat.le_of_ble_eq_true rfl) ?_
  show xR G yyD_stair _ 0 [(0, .int v0), (1, .int v1)] [] _ _
  unfold fD_stair
  refine xR_iln 0 0 dD_stair_0 rfl rfl ?_
  refine xR_ic 1 (2 : Int32) dD_stair_1 (by decide) ?_
  refine xR_icne 2 11 dD_stair_2 (by decide) ?_ ?_
  · refine xR_iln 11 1 dD_stair_11 rfl rfl ?_
    exact xR_iret 12 rfl rfl dD_stair_12
  · refine xR_iln 5 1 dD_stair_5 rfl rfl ?_
    refine xR_ic 6 (3 : Int32) dD_stair_6 (by decide) ?_
    refine xR_iadd 7 dD_stair_7 ?_
    refine xR_goto 8 12 dD_stair_8 (by decide) ?_
    exact xR_iret 12 rfl rfl dD_stair_12
theorem dD_sill_0 : decode (xb yyD_sill) 0 = .ok (.iload_n 0, 1) := by decide +kernel
theorem dD_sill_1 : decode (xb yyD_sill) 1 = .ok (.iconst 3, 1) := by decide +kernel
theorem dD_sill_2 : decode (xb yyD_sill) 2 = .ok (.if_icmp .ne 9, 3) := by decide +kernel
theorem dD_sill_5 : decode (xb yyD_sill) 5 = .ok (.iconst 2, 1) := by decide +kernel
theorem dD_sill_6 : decode (xb yyD_sill) 6 = .ok (.iload_n 1, 1) := by decide +kernel
theorem dD_sill_7 : decode (xb yyD_sill) 7 = .ok (.imul, 1) := by decide +kernel
theorem dD_sill_8 : decode (xb yyD_sill) 8 = .ok (.goto 4, 3) := by decide +kernel
theorem dD_sill_11 : decode (xb yyD_sill) 11 = .ok (.iload_n 1, 1) := by decide +kernel
theorem dD_sill_12 : decode (xb yyD_sill) 12 = .ok (.ireturn, 1) := by decide +kernel
def fD_sill  (v0 : Int32) (v1 : Int32) : Option (Int32) := (if v0 = (3 : Int32) then some ((2 : Int32) * v1) else some v1)
set_option maxRecDepth 100000 in
set_option maxHeartbeats 4000000 in
theorem kD_sill (G : xG)   (S : xS)  (v0 : Int32) (v1 : Int32) : ∀ a, fD_sill  v0 v1 = some a → xCt G yyD_sill [.int v0, .int v1] S (some (.int a)) S := by
  refine xR_ct (em := (emi S)) rfl (Nat.le_of_ble_eq_true rfl) ?_
  show xR G yyD_sill _ 0 [(0, .int v0), (1, .int v1)] [] _ _
  unfold fD_sill
  refine xR_iln 0 0 dD_sill_0 rfl rfl ?_
  refine xR_ic 1 (3 : Int32) dD_sill_1 (by decide) ?_
  refine xR_icne 2 11 dD_sill_2 (by decide) ?_ ?_
  · refine xR_iln 11 1 dD_sill_11 rfl rfl ?_
    exact xR_iret 12 rfl rfl dD_sill_12
  · refine xR_ic 5 (2 : Int32) dD_sill_5 (by decide) ?_
    refine xR_iln 6 1 dD_sill_6 rfl rfl ?_
    refine xR_imul 7 dD_sill_7 ?_
    refine xR_goto 8 12 dD_sill_8 (by decide) ?_
    exact xR_iret 12 rfl rfl dD_sill_12
theorem dD_attic_0 : decode (xb yyD_attic) 0 = .ok (.iload_n 0, 1) := by decide +kernel
theorem dD_attic_1 : decode (xb yyD_attic) 1 = .ok (.iconst 2, 1) := by decide +kernel
theorem dD_attic_2 : decode (xb yyD_attic) 2 = .ok (.if_icmp .lt 9, 3) := by decide +kernel
theorem dD_attic_5 : decode (xb yyD_attic) 5 = .ok (.iload_n 1, 1) := by decide +kernel
theorem dD_attic_6 : decode (xb yyD_attic) 6 = .ok (.iconst 5, 1) := by decide +kernel
theorem dD_attic_7 : decode (xb yyD_attic) 7 = .ok (.iadd, 1) := by decide +kernel
theorem dD_attic_8 : decode (xb yyD_attic) 8 = .ok (.goto 4, 3) := by decide +kernel
theorem dD_attic_11 : decode (xb yyD_attic) 11 = .ok (.iload_n 1, 1) := by decide +kernel
theorem dD_attic_12 : decode (xb yyD_attic) 12 = .ok (.ireturn, 1) := by decide +kernel
def fD_attic  (v0 : Int32) (v1 : Int32) : Option (Int32) := (if v0 < (2 : Int32) then some v1 else some (v1 + (5 : Int32)))
set_option maxRecDepth 100000 in
set_option maxHeartbeats 4000000 in
theorem kD_attic (G : xG)   (S : xS)  (v0 : Int32) (v1 : Int32) : ∀ a, fD_attic  v0 v1 = some a → xCt G yyD_attic [.int v0, .int v1] S (some (.int a)) S := by
  refine xR_ct (em := (emi S)) rfl (Nat.le_of_ble_eq_true rfl) ?_
  show xR G yyD_attic _ 0 [(0, .int v0), (1, .int v1)] [] _ _
  unfold fD_attic
  refine xR_iln 0 0 dD_attic_0 rfl rfl ?_
  refine xR_ic 1 (2 : Int32) dD_attic_1 (by decide) ?_
  refine xR_iclt 2 11 dD_attic_2 (by decide) ?_ ?_
  · refine xR_iln 11 1 dD_attic_11 rfl rfl ?_
    exact xR_iret 12 rfl rfl dD_attic_12
  · refine xR_iln 5 1 dD_attic_5 rfl rfl ?_
    refine xR_ic 6 (5 : Int32) dD_attic_6 (by decide) ?_
    refine xR_iadd 7 dD_attic_7 ?_
    refine xR_goto 8 12 dD_attic_8 (by decide) ?_
    exact xR_iret 12 rfl rfl dD_attic_12
theorem dD_kitchen_0 : decode (xb yyD_kitchen) 0 = .ok (.iload_n 0, 1) := by decide +kernel
theorem dD_kitchen_1 : decode (xb yyD_kitchen) 1 = .ok (.ifCond .ne 9, 3) := by decide +kernel
theorem dD_kitchen_4 : decode (xb yyD_kitchen) 4 = .ok (.iload_n 1, 1) := by decide +kernel
theorem dD_kitchen_5 : decode (xb yyD_kitchen) 5 = .ok (.iconst 4, 1) := by decide +kernel
theorem dD_kitchen_6 : decode (xb yyD_kitchen) 6 = .ok (.iadd, 1) := by decide +kernel
theorem dD_kitchen_7 : decode (xb yyD_kitchen) 7 = .ok (.goto 4, 3) := by decide +kernel
theorem dD_kitchen_10 : decode (xb yyD_kitchen) 10 = .ok (.iload_n 1, 1) := by decide +kernel
theorem dD_kitchen_11 : decode (xb yyD_kitchen) 11 = .ok (.ireturn, 1) := by decide +kernel
def fD_kitchen  (v0 : Int32) (v1 : Int32) : Option (Int32) := (if v0 = 0 then some (v1 + (4 : Int32)) else some v1)
set_option maxRecDepth 100000 in
set_option maxHeartbeats 4000000 in
theorem kD_kitchen (G : xG)   (S : xS)  (v0 : Int32) (v1 : Int32) : ∀ a, fD_kitchen  v0 v1 = some a → xCt G yyD_kitchen [.int v0, .int v1] S (some (.int a)) S := by
  refine xR_ct (em := (emi S)) rfl (Nat.le_of_ble_eq_true rfl) ?_
  show xR G yyD_kitchen _ 0 [(0, .int v0), (1, .int v1)] [] _ _
  unfold fD_kitchen
  refine xR_iln 0 0 dD_kitchen_0 rfl rfl ?_
  refine xR_ifne 1 10 dD_kitchen_1 (by decide) ?_ ?_
  · refine xR_iln 10 1 dD_kitchen_10 rfl rfl ?_
    exact xR_iret 11 rfl rfl dD_kitchen_11
  · refine xR_iln 4 1 dD_kitchen_4 rfl rfl ?_
    refine xR_ic 5 (4 : Int32) dD_kitchen_5 (by decide) ?_
    refine xR_iadd 6 dD_kitchen_6 ?_
    refine xR_goto 7 11 dD_kitchen_7 (by decide) ?_
    exact xR_iret 11 rfl rfl dD_kitchen_11
theorem dD_marble_0 : decode (xb yyD_marble) 0 = .ok (.iload_n 0, 1) := by decide +kernel
theorem dD_marble_1 : decode (xb yyD_marble) 1 = .ok (.iconst 3, 1) := by decide +kernel
theorem dD_marble_2 : decode (xb yyD_marble) 2 = .ok (.idiv, 1) := by decide +kernel
theorem dD_marble_3 : decode (xb yyD_marble) 3 = .ok (.ireturn, 1) := by decide +kernel
def fD_marble  (v0 : Int32) : Option (Int32) := some (v0 / (3 : Int32))
set_option maxRecDepth 100000 in
set_option maxHeartbeats 4000000 in
theorem kD_marble (G : xG)   (S : xS)  (v0 : Int32) : ∀ a, fD_marble  v0 = some a → xCt G yyD_marble [.int v0] S (some (.int a)) S := by
  refine xR_ct (em := (emi S)) rfl (Nat.le_of_ble_eq_true rfl) ?_
  show xR G yyD_marble _ 0 [(0, .int v0)] [] _ _
  unfold fD_marble
  refine xR_iln 0 0 dD_marble_0 rfl rfl ?_
  refine xR_ic 1 (3 : Int32) dD_marble_1 (by decide) ?_
  refine xR_idiv 2 dD_marble_2 (by decide) ?_
  exact xR_iret 3 rfl rfl dD_marble_3
theorem dD_soundBy_0 : decode (xb yyD_soundBy) 0 = .ok (.iload_n 0, 1) := by decide +kernel
theorem dD_soundBy_1 : decode (xb yyD_soundBy) 1 = .ok (.tableswitch 92 1 5 #[35, 45, 55, 65, 79], 35) := by decide +kernel
theorem dD_soundBy_36 : decode (xb yyD_soundBy) 36 = .ok (.iload_n 1, 1) := by decide +kernel
theorem dD_soundBy_37 : decode (xb yyD_soundBy) 37 = .ok (.iload_n 2, 1) := by decide +kernel
theorem dD_soundBy_38 : decode (xb yyD_soundBy) 38 = .ok (.iload_n 3, 1) := by decide +kernel
theorem dD_soundBy_39 : decode (xb yyD_soundBy) 39 = .ok (.invokestatic 7, 3) := by decide +kernel
theorem dD_soundBy_42 : decode (xb yyD_soundBy) 42 = .ok (.invokestatic 13, 3) := by decide +kernel
theorem dD_soundBy_45 : decode (xb yyD_soundBy) 45 = .ok (.ireturn, 1) := by decide +kernel
theorem dD_soundBy_46 : decode (xb yyD_soundBy) 46 = .ok (.iload_n 1, 1) := by decide +kernel
theorem dD_soundBy_47 : decode (xb yyD_soundBy) 47 = .ok (.iload_n 2, 1) := by decide +kernel
theorem dD_soundBy_48 : decode (xb yyD_soundBy) 48 = .ok (.iload_n 3, 1) := by decide +kernel
theorem dD_soundBy_49 : decode (xb yyD_soundBy) 49 = .ok (.invokestatic 7, 3) := by decide +kernel
theorem dD_soundBy_52 : decode (xb yyD_soundBy) 52 = .ok (.invokestatic 16, 3) := by decide +kernel
theorem dD_soundBy_55 : decode (xb yyD_soundBy) 55 = .ok (.ireturn, 1) := by decide +kernel
theorem dD_soundBy_56 : decode (xb yyD_soundBy) 56 = .ok (.iload_n 1, 1) := by decide +kernel
theorem dD_soundBy_57 : decode (xb yyD_soundBy) 57 = .ok (.iload_n 2, 1) := by decide +kernel
theorem dD_soundBy_58 : decode (xb yyD_soundBy) 58 = .ok (.iload_n 3, 1) := by decide +kernel
theorem dD_soundBy_59 : decode (xb yyD_soundBy) 59 = .ok (.invokestatic 7, 3) := by decide +kernel
theorem dD_soundBy_62 : decode (xb yyD_soundBy) 62 = .ok (.invokestatic 19, 3) := by decide +kernel
theorem dD_soundBy_65 : decode (xb yyD_soundBy) 65 = .ok (.ireturn, 1) := by decide +kernel
theorem dD_soundBy_66 : decode (xb yyD_soundBy) 66 = .ok (.iload_n 1, 1) := by decide +kernel
theorem dD_soundBy_67 : decode (xb yyD_soundBy) 67 = .ok (.iload_n 1, 1) := by decide +kernel
theorem dD_soundBy_68 : decode (xb yyD_soundBy) 68 = .ok (.iload_n 2, 1) := by decide +kernel
theorem dD_soundBy_69 : decode (xb yyD_soundBy) 69 = .ok (.iconst 0, 1) := by decide +kernel
theorem dD_soundBy_70 : decode (xb yyD_soundBy) 70 = .ok (.invokestatic 7, 3) := by decide +kernel
theorem dD_soundBy_73 : decode (xb yyD_soundBy) 73 = .ok (.invokestatic 13, 3) := by decide +kernel
theorem dD_soundBy_76 : decode (xb yyD_soundBy) 76 = .ok (.invokestatic 22, 3) := by decide +kernel
theorem dD_soundBy_79 : decode (xb yyD_soundBy) 79 = .ok (.ireturn, 1) := by decide +kernel
theorem dD_soundBy_80 : decode (xb yyD_soundBy) 80 = .ok (.iload_n 1, 1) := by decide +kernel
theorem dD_soundBy_81 : decode (xb yyD_soundBy) 81 = .ok (.iload_n 2, 1) := by decide +kernel
theorem dD_soundBy_82 : decode (xb yyD_soundBy) 82 = .ok (.iload_n 3, 1) := by decide +kernel
theorem dD_soundBy_83 : decode (xb yyD_soundBy) 83 = .ok (.invokestatic 7, 3) := by decide +kernel
theorem dD_soundBy_86 : decode (xb yyD_soundBy) 86 = .ok (.invokestatic 16, 3) := by decide +kernel
theorem dD_soundBy_89 : decode (xb yyD_soundBy) 89 = .ok (.invokestatic 25, 3) := by decide +kernel
theorem dD_soundBy_92 : decode (xb yyD_soundBy) 92 = .ok (.ireturn, 1) := by decide +kernel
theorem dD_soundBy_93 : decode (xb yyD_soundBy) 93 = .ok (.iload_n 2, 1) := by decide +kernel
theorem dD_soundBy_94 : decode (xb yyD_soundBy) 94 = .ok (.iload_n 3, 1) := by decide +kernel
theorem dD_soundBy_95 : decode (xb yyD_soundBy) 95 = .ok (.invokestatic 7, 3) := by decide +kernel
theorem dD_soundBy_98 : decode (xb yyD_soundBy) 98 = .ok (.ireturn, 1) := by decide +kernel
def fD_soundBy  (v0 : Int32) (v1 : Int32) (v2 : Int32) (v3 : Int32) : Option (Int32) := (if v0 = (1 : Int32) then (fD_door v2 v3).bind fun r39 => (fD_stair v1 r39).bind fun r42 => some r42 else (if v0 = (2 : Int32) then (fD_door v2 v3).bind fun r49 => (fD_sill v1 r49).bind fun r52 => some r52 else (if v0 = (3 : Int32) then (fD_door v2 v3).bind fun r59 => (fD_attic v1 r59).bind fun r62 => some r62 else (if v0 = (4 : Int32) then (fD_door v2 (0 : Int32)).bind fun r70 => (fD_stair v1 r70).bind fun r73 => (fD_kitchen v1 r73).bind fun r76 => some r76 else (if v0 = (5 : Int32) then (fD_door v2 v3).bind fun r83 => (fD_sill v1 r83).bind fun r86 => (fD_marble r86).bind fun r89 => some r89 else (fD_door v2 v3).bind fun r95 => some r95)))))
set_option maxRecDepth 100000 in
set_option maxHeartbeats 4000000 in
theorem kD_soundBy (G : xG)   (S : xS)  (v0 : Int32) (v1 : Int32) (v2 : Int32) (v3 : Int32) : ∀ a, fD_soundBy  v0 v1 v2 v3 = some a → xCt G yyD_soundBy [.int v0, .int v1, .int v2, .int v3] S (some (.int a)) S := by
  refine xR_ct (em := (emi S)) rfl (Nat.le_of_ble_eq_true rfl) ?_
  show xR G yyD_soundBy _ 0 [(0, .int v0), (1, .int v1), (2, .int v2), (3, .int v3)] [] _ _
  unfold fD_soundBy
  refine xR_iln 0 0 dD_soundBy_0 rfl rfl ?_
  refine xR_tsw 1 36 (1 : Int32) dD_soundBy_1 (by decide) (by decide) rfl (by decide) ?_ (fun hs1_0 => ?_)
  · refine xR_iln 36 1 dD_soundBy_36 rfl rfl ?_
    refine xR_iln 37 2 dD_soundBy_37 rfl rfl ?_
    refine xR_iln 38 3 dD_soundBy_38 rfl rfl ?_
    refine xR_callSi 39 cs_D_door ml_RX7_7 ⟨Nat.le_of_ble_eq_true rfl, Nat.le_of_ble_eq_true rfl⟩ [.int v2, .int v3] rfl rfl (Nat.le_of_ble_eq_true rfl) dD_soundBy_39 (kD_door G S v2 v3) (fun r39 => ?_)
    refine xR_callSi 42 cs_D_stair ml_RX7_13 ⟨Nat.le_of_ble_eq_true rfl, Nat.le_of_ble_eq_true rfl⟩ [.int v1, .int r39] rfl rfl (Nat.le_of_ble_eq_true rfl) dD_soundBy_42 (kD_stair G S v1 r39) (fun r42 => ?_)
    exact xR_iret 45 rfl rfl dD_soundBy_45
  refine xR_tsw 1 46 (2 : Int32) dD_soundBy_1 (by decide) (by decide) rfl (by decide) ?_ (fun hs1_1 => ?_)
  · refine xR_iln 46 1 dD_soundBy_46 rfl rfl ?_
    refine xR_iln 47 2 dD_soundBy_47 rfl rfl ?_
    refine xR_iln 48 3 dD_soundBy_48 rfl rfl ?_
    refine xR_callSi 49 cs_D_door ml_RX7_7 ⟨Nat.le_of_ble_eq_true rfl, Nat.le_of_ble_eq_true rfl⟩ [.int v2, .int v3] rfl rfl (Nat.le_of_ble_eq_true rfl) dD_soundBy_49 (kD_door G S v2 v3) (fun r49 => ?_)
    refine xR_callSi 52 cs_D_sill ml_RX7_16 ⟨Nat.le_of_ble_eq_true rfl, Nat.le_of_ble_eq_true rfl⟩ [.int v1, .int r49] rfl rfl (Nat.le_of_ble_eq_true rfl) dD_soundBy_52 (kD_sill G S v1 r49) (fun r52 => ?_)
    exact xR_iret 55 rfl rfl dD_soundBy_55
  refine xR_tsw 1 56 (3 : Int32) dD_soundBy_1 (by decide) (by decide) rfl (by decide) ?_ (fun hs1_2 => ?_)
  · refine xR_iln 56 1 dD_soundBy_56 rfl rfl ?_
    refine xR_iln 57 2 dD_soundBy_57 rfl rfl ?_
    refine xR_iln 58 3 dD_soundBy_58 rfl rfl ?_
    refine xR_callSi 59 cs_D_door ml_RX7_7 ⟨Nat.le_of_ble_eq_true rfl, Nat.le_of_ble_eq_true rfl⟩ [.int v2, .int v3] rfl rfl (Nat.le_of_ble_eq_true rfl) dD_soundBy_59 (kD_door G S v2 v3) (fun r59 => ?_)
    refine xR_callSi 62 cs_D_attic ml_RX7_19 ⟨Nat.le_of_ble_eq_true rfl, Nat.le_of_ble_eq_true rfl⟩ [.int v1, .int r59] rfl rfl (Nat.le_of_ble_eq_true rfl) dD_soundBy_62 (kD_attic G S v1 r59) (fun r62 => ?_)
    exact xR_iret 65 rfl rfl dD_soundBy_65
  refine xR_tsw 1 66 (4 : Int32) dD_soundBy_1 (by decide) (by decide) rfl (by decide) ?_ (fun hs1_3 => ?_)
  · refine xR_iln 66 1 dD_soundBy_66 rfl rfl ?_
    refine xR_iln 67 1 dD_soundBy_67 rfl rfl ?_
    refine xR_iln 68 2 dD_soundBy_68 rfl rfl ?_
    refine xR_ic 69 (0 : Int32) dD_soundBy_69 (by decide) ?_
    refine xR_callSi 70 cs_D_door ml_RX7_7 ⟨Nat.le_of_ble_eq_true rfl, Nat.le_of_ble_eq_true rfl⟩ [.int v2, .int (0 : Int32)] rfl rfl (Nat.le_of_ble_eq_true rfl) dD_soundBy_70 (kD_door G S v2 (0 : Int32)) (fun r70 => ?_)
    refine xR_callSi 73 cs_D_stair ml_RX7_13 ⟨Nat.le_of_ble_eq_true rfl, Nat.le_of_ble_eq_true rfl⟩ [.int v1, .int r70] rfl rfl (Nat.le_of_ble_eq_true rfl) dD_soundBy_73 (kD_stair G S v1 r70) (fun r73 => ?_)
    refine xR_callSi 76 cs_D_kitchen ml_RX7_22 ⟨Nat.le_of_ble_eq_true rfl, Nat.le_of_ble_eq_true rfl⟩ [.int v1, .int r73] rfl rfl (Nat.le_of_ble_eq_true rfl) dD_soundBy_76 (kD_kitchen G S v1 r73) (fun r76 => ?_)
    exact xR_iret 79 rfl rfl dD_soundBy_79
  refine xR_tsw 1 80 (5 : Int32) dD_soundBy_1 (by decide) (by decide) rfl (by decide) ?_ (fun hs1_4 => ?_)
  · refine xR_iln 80 1 dD_soundBy_80 rfl rfl ?_
    refine xR_iln 81 2 dD_soundBy_81 rfl rfl ?_
    refine xR_iln 82 3 dD_soundBy_82 rfl rfl ?_
    refine xR_callSi 83 cs_D_door ml_RX7_7 ⟨Nat.le_of_ble_eq_true rfl, Nat.le_of_ble_eq_true rfl⟩ [.int v2, .int v3] rfl rfl (Nat.le_of_ble_eq_true rfl) dD_soundBy_83 (kD_door G S v2 v3) (fun r83 => ?_)
    refine xR_callSi 86 cs_D_sill ml_RX7_16 ⟨Nat.le_of_ble_eq_true rfl, Nat.le_of_ble_eq_true rfl⟩ [.int v1, .int r83] rfl rfl (Nat.le_of_ble_eq_true rfl) dD_soundBy_86 (kD_sill G S v1 r83) (fun r86 => ?_)
    refine xR_callSi 89 cs_D_marble ml_RX7_25 ⟨Nat.le_of_ble_eq_true rfl, Nat.le_of_ble_eq_true rfl⟩ [.int r86] rfl rfl (Nat.le_of_ble_eq_true rfl) dD_soundBy_89 (kD_marble G S r86) (fun r89 => ?_)
    exact xR_iret 92 rfl rfl dD_soundBy_92
  refine xR_tso 1 93 dD_soundBy_1 (by have e0 := lv_neT hs1_0 (a := 1) rfl; have e1 := lv_neT hs1_1 (a := 2) rfl; have e2 := lv_neT hs1_2 (a := 3) rfl; have e3 := lv_neT hs1_3 (a := 4) rfl; have e4 := lv_neT hs1_4 (a := 5) rfl; omega) (by decide) ?_
  refine xR_iln 93 2 dD_soundBy_93 rfl rfl ?_
  refine xR_iln 94 3 dD_soundBy_94 rfl rfl ?_
  refine xR_callSi 95 cs_D_door ml_RX7_7 ⟨Nat.le_of_ble_eq_true rfl, Nat.le_of_ble_eq_true rfl⟩ [.int v2, .int v3] rfl rfl (Nat.le_of_ble_eq_true rfl) dD_soundBy_95 (kD_door G S v2 v3) (fun r95 => ?_)
  exact xR_iret 98 rfl rfl dD_soundBy_98
theorem dH_holdsBit_0 : decode (xb yyH_holdsBit) 0 = .ok (.iload_n 0, 1) := by decide +kernel
theorem dH_holdsBit_1 : decode (xb yyH_holdsBit) 1 = .ok (.iload_n 1, 1) := by decide +kernel
theorem dH_holdsBit_2 : decode (xb yyH_holdsBit) 2 = .ok (.ishr, 1) := by decide +kernel
theorem dH_holdsBit_3 : decode (xb yyH_holdsBit) 3 = .ok (.iconst 1, 1) := by decide +kernel
theorem dH_holdsBit_4 : decode (xb yyH_holdsBit) 4 = .ok (.iand, 1) := by decide +kernel
theorem dH_holdsBit_5 : decode (xb yyH_holdsBit) 5 = .ok (.iconst 1, 1) := by decide +kernel
theorem dH_holdsBit_6 : decode (xb yyH_holdsBit) 6 = .ok (.if_icmp .ne 7, 3) := by decide +kernel
theorem dH_holdsBit_9 : decode (xb yyH_holdsBit) 9 = .ok (.iconst 1, 1) := by decide +kernel
theorem dH_holdsBit_10 : decode (xb yyH_holdsBit) 10 = .ok (.goto 4, 3) := by decide +kernel
theorem dH_holdsBit_13 : decode (xb yyH_holdsBit) 13 = .ok (.iconst 0, 1) := by decide +kernel
theorem dH_holdsBit_14 : decode (xb yyH_holdsBit) 14 = .ok (.ireturn, 1) := by decide +kernel
def fH_holdsBit  (v0 : Int32) (v1 : Int32) : Option (Int32) := (if ((v0 >>> (v1 &&& 31)) &&& (1 : Int32)) = (1 : Int32) then some (xnb (1 : Int32)) else some (xnb (0 : Int32)))
set_option maxRecDepth 100000 in
set_option maxHeartbeats 4000000 in
theorem kH_holdsBit (G : xG)   (S : xS)  (v0 : Int32) (v1 : Int32) : ∀ a, fH_holdsBit  v0 v1 = some a → xCt G yyH_holdsBit [.int v0, .int v1] S (some (.int a)) S := by
  refine xR_ct (em := (emi S)) rfl (Nat.le_of_ble_eq_true rfl) ?_
  show xR G yyH_holdsBit _ 0 [(0, .int v0), (1, .int v1)] [] _ _
  unfold fH_holdsBit
  refine xR_iln 0 0 dH_holdsBit_0 rfl rfl ?_
  refine xR_iln 1 1 dH_holdsBit_1 rfl rfl ?_
  refine xR_ishr 2 dH_holdsBit_2 ?_
  refine xR_ic 3 (1 : Int32) dH_holdsBit_3 (by decide) ?_
  refine xR_iand 4 dH_holdsBit_4 ?_
  refine xR_ic 5 (1 : Int32) dH_holdsBit_5 (by decide) ?_
  refine xR_icne 6 13 dH_holdsBit_6 (by decide) ?_ ?_
  · refine xR_ic 13 (0 : Int32) dH_holdsBit_13 (by decide) ?_
    exact xR_zret 14 rfl rfl dH_holdsBit_14
  · refine xR_ic 9 (1 : Int32) dH_holdsBit_9 (by decide) ?_
    refine xR_goto 10 14 dH_holdsBit_10 (by decide) ?_
    exact xR_zret 14 rfl rfl dH_holdsBit_14
theorem dS_lent_0 : decode (xb yyS_lent) 0 = .ok (.iload_n 0, 1) := by decide +kernel
theorem dS_lent_1 : decode (xb yyS_lent) 1 = .ok (.iconst 3, 1) := by decide +kernel
theorem dS_lent_2 : decode (xb yyS_lent) 2 = .ok (.iload_n 1, 1) := by decide +kernel
theorem dS_lent_3 : decode (xb yyS_lent) 3 = .ok (.iconst 1, 1) := by decide +kernel
theorem dS_lent_4 : decode (xb yyS_lent) 4 = .ok (.isub, 1) := by decide +kernel
theorem dS_lent_5 : decode (xb yyS_lent) 5 = .ok (.iconst 0, 1) := by decide +kernel
theorem dS_lent_6 : decode (xb yyS_lent) 6 = .ok (.invokestatic 26, 3) := by decide +kernel
theorem dS_lent_9 : decode (xb yyS_lent) 9 = .ok (.imul, 1) := by decide +kernel
theorem dS_lent_10 : decode (xb yyS_lent) 10 = .ok (.isub, 1) := by decide +kernel
theorem dS_lent_11 : decode (xb yyS_lent) 11 = .ok (.iconst 0, 1) := by decide +kernel
theorem dS_lent_12 : decode (xb yyS_lent) 12 = .ok (.invokestatic 26, 3) := by decide +kernel
theorem dS_lent_15 : decode (xb yyS_lent) 15 = .ok (.ireturn, 1) := by decide +kernel
def fS_lent  (v0 : Int32) (v1 : Int32) : Option (Int32) := some (xmax (v0 - ((3 : Int32) * (xmax (v1 - (1 : Int32)) (0 : Int32)))) (0 : Int32))
set_option maxRecDepth 100000 in
set_option maxHeartbeats 4000000 in
theorem kS_lent (G : xG)   (S : xS)  (v0 : Int32) (v1 : Int32) : ∀ a, fS_lent  v0 v1 = some a → xCt G yyS_lent [.int v0, .int v1] S (some (.int a)) S := by
  refine xR_ct (em := (emi S)) rfl (Nat.le_of_ble_eq_true rfl) ?_
  show xR G yyS_lent _ 0 [(0, .int v0), (1, .int v1)] [] _ _
  unfold fS_lent
  refine xR_iln 0 0 dS_lent_0 rfl rfl ?_
  refine xR_ic 1 (3 : Int32) dS_lent_1 (by decide) ?_
  refine xR_iln 2 1 dS_lent_2 rfl rfl ?_
  refine xR_ic 3 (1 : Int32) dS_lent_3 (by decide) ?_
  refine xR_isub 4 dS_lent_4 ?_
  refine xR_ic 5 (0 : Int32) dS_lent_5 (by decide) ?_
  refine xR_mmax 6 ml_RX3_26 ⟨Nat.le_of_ble_eq_true rfl, Nat.le_of_ble_eq_true rfl⟩ dS_lent_6 ?_
  refine xR_imul 9 dS_lent_9 ?_
  refine xR_isub 10 dS_lent_10 ?_
  refine xR_ic 11 (0 : Int32) dS_lent_11 (by decide) ?_
  refine xR_mmax 12 ml_RX3_26 ⟨Nat.le_of_ble_eq_true rfl, Nat.le_of_ble_eq_true rfl⟩ dS_lent_12 ?_
  exact xR_iret 15 rfl rfl dS_lent_15
theorem dS_cello_0 : decode (xb yyS_cello) 0 = .ok (.iload_n 0, 1) := by decide +kernel
theorem dS_cello_1 : decode (xb yyS_cello) 1 = .ok (.ifCond .ne 9, 3) := by decide +kernel
theorem dS_cello_4 : decode (xb yyS_cello) 4 = .ok (.iconst 2, 1) := by decide +kernel
theorem dS_cello_5 : decode (xb yyS_cello) 5 = .ok (.iload_n 1, 1) := by decide +kernel
theorem dS_cello_6 : decode (xb yyS_cello) 6 = .ok (.imul, 1) := by decide +kernel
theorem dS_cello_7 : decode (xb yyS_cello) 7 = .ok (.goto 4, 3) := by decide +kernel
theorem dS_cello_10 : decode (xb yyS_cello) 10 = .ok (.iload_n 1, 1) := by decide +kernel
theorem dS_cello_11 : decode (xb yyS_cello) 11 = .ok (.ireturn, 1) := by decide +kernel
def fS_cello  (v0 : Int32) (v1 : Int32) : Option (Int32) := (if v0 = 0 then some ((2 : Int32) * v1) else some v1)
set_option maxRecDepth 100000 in
set_option maxHeartbeats 4000000 in
theorem kS_cello (G : xG)   (S : xS)  (v0 : Int32) (v1 : Int32) : ∀ a, fS_cello  v0 v1 = some a → xCt G yyS_cello [.int v0, .int v1] S (some (.int a)) S := by
  refine xR_ct (em := (emi S)) rfl (Nat.le_of_ble_eq_true rfl) ?_
  show xR G yyS_cello _ 0 [(0, .int v0), (1, .int v1)] [] _ _
  unfold fS_cello
  refine xR_iln 0 0 dS_cello_0 rfl rfl ?_
  refine xR_ifne 1 10 dS_cello_1 (by decide) ?_ ?_
  · refine xR_iln 10 1 dS_cello_10 rfl rfl ?_
    exact xR_iret 11 rfl rfl dS_cello_11
  · refine xR_ic 4 (2 : Int32) dS_cello_4 (by decide) ?_
    refine xR_iln 5 1 dS_cello_5 rfl rfl ?_
    refine xR_imul 6 dS_cello_6 ?_
    refine xR_goto 7 11 dS_cello_7 (by decide) ?_
    exact xR_iret 11 rfl rfl dS_cello_11
theorem dS_tenement_0 : decode (xb yyS_tenement) 0 = .ok (.iload_n 1, 1) := by decide +kernel
theorem dS_tenement_1 : decode (xb yyS_tenement) 1 = .ok (.iconst 3, 1) := by decide +kernel
theorem dS_tenement_2 : decode (xb yyS_tenement) 2 = .ok (.if_icmp .lt 7, 3) := by decide +kernel
theorem dS_tenement_5 : decode (xb yyS_tenement) 5 = .ok (.iconst 0, 1) := by decide +kernel
theorem dS_tenement_6 : decode (xb yyS_tenement) 6 = .ok (.goto 4, 3) := by decide +kernel
theorem dS_tenement_9 : decode (xb yyS_tenement) 9 = .ok (.iload_n 0, 1) := by decide +kernel
theorem dS_tenement_10 : decode (xb yyS_tenement) 10 = .ok (.ireturn, 1) := by decide +kernel
def fS_tenement  (v0 : Int32) (v1 : Int32) : Option (Int32) := (if v1 < (3 : Int32) then some v0 else some (0 : Int32))
set_option maxRecDepth 100000 in
set_option maxHeartbeats 4000000 in
theorem kS_tenement (G : xG)   (S : xS)  (v0 : Int32) (v1 : Int32) : ∀ a, fS_tenement  v0 v1 = some a → xCt G yyS_tenement [.int v0, .int v1] S (some (.int a)) S := by
  refine xR_ct (em := (emi S)) rfl (Nat.le_of_ble_eq_true rfl) ?_
  show xR G yyS_tenement _ 0 [(0, .int v0), (1, .int v1)] [] _ _
  unfold fS_tenement
  refine xR_iln 0 1 dS_tenement_0 rfl rfl ?_
  refine xR_ic 1 (3 : Int32) dS_tenement_1 (by decide) ?_
  refine xR_iclt 2 9 dS_tenement_2 (by decide) ?_ ?_
  · refine xR_iln 9 0 dS_tenement_9 rfl rfl ?_
    exact xR_iret 10 rfl rfl dS_tenement_10
  · refine xR_ic 5 (0 : Int32) dS_tenement_5 (by decide) ?_
    refine xR_goto 6 10 dS_tenement_6 (by decide) ?_
    exact xR_iret 10 rfl rfl dS_tenement_10
theorem dS_squeak_0 : decode (xb yyS_squeak) 0 = .ok (.iload_n 0, 1) := by decide +kernel
theorem dS_squeak_1 : decode (xb yyS_squeak) 1 = .ok (.iconst 3, 1) := by decide +kernel
theorem dS_squeak_2 : decode (xb yyS_squeak) 2 = .ok (.if_icmp .ne 9, 3) := by decide +kernel
theorem dS_squeak_5 : decode (xb yyS_squeak) 5 = .ok (.iload_n 1, 1) := by decide +kernel
theorem dS_squeak_6 : decode (xb yyS_squeak) 6 = .ok (.iload_n 2, 1) := by decide +kernel
theorem dS_squeak_7 : decode (xb yyS_squeak) 7 = .ok (.iadd, 1) := by decide +kernel
theorem dS_squeak_8 : decode (xb yyS_squeak) 8 = .ok (.goto 8, 3) := by decide +kernel
theorem dS_squeak_11 : decode (xb yyS_squeak) 11 = .ok (.iload_n 1, 1) := by decide +kernel
theorem dS_squeak_12 : decode (xb yyS_squeak) 12 = .ok (.iconst 1, 1) := by decide +kernel
theorem dS_squeak_13 : decode (xb yyS_squeak) 13 = .ok (.iadd, 1) := by decide +kernel
theorem dS_squeak_14 : decode (xb yyS_squeak) 14 = .ok (.iconst 2, 1) := by decide +kernel
theorem dS_squeak_15 : decode (xb yyS_squeak) 15 = .ok (.idiv, 1) := by decide +kernel
theorem dS_squeak_16 : decode (xb yyS_squeak) 16 = .ok (.ireturn, 1) := by decide +kernel
def fS_squeak  (v0 : Int32) (v1 : Int32) (v2 : Int32) : Option (Int32) := (if v0 = (3 : Int32) then some (v1 + v2) else some ((v1 + (1 : Int32)) / (2 : Int32)))
set_option maxRecDepth 100000 in
set_option maxHeartbeats 4000000 in
theorem kS_squeak (G : xG)   (S : xS)  (v0 : Int32) (v1 : Int32) (v2 : Int32) : ∀ a, fS_squeak  v0 v1 v2 = some a → xCt G yyS_squeak [.int v0, .int v1, .int v2] S (some (.int a)) S := by
  refine xR_ct (em := (emi S)) rfl (Nat.le_of_ble_eq_true rfl) ?_
  show xR G yyS_squeak _ 0 [(0, .int v0), (1, .int v1), (2, .int v2)] [] _ _
  unfold fS_squeak
  refine xR_iln 0 0 dS_squeak_0 rfl rfl ?_
  refine xR_ic 1 (3 : Int32) dS_squeak_1 (by decide) ?_
  refine xR_icne 2 11 dS_squeak_2 (by decide) ?_ ?_
  · refine xR_iln 11 1 dS_squeak_11 rfl rfl ?_
    refine xR_ic 12 (1 : Int32) dS_squeak_12 (by decide) ?_
    refine xR_iadd 13 dS_squeak_13 ?_
    refine xR_ic 14 (2 : Int32) dS_squeak_14 (by decide) ?_
    refine xR_idiv 15 dS_squeak_15 (by decide) ?_
    exact xR_iret 16 rfl rfl dS_squeak_16
  · refine xR_iln 5 1 dS_squeak_5 rfl rfl ?_
    refine xR_iln 6 2 dS_squeak_6 rfl rfl ?_
    refine xR_iadd 7 dS_squeak_7 ?_
    refine xR_goto 8 16 dS_squeak_8 (by decide) ?_
    exact xR_iret 16 rfl rfl dS_squeak_16
theorem dS_bass_0 : decode (xb yyS_bass) 0 = .ok (.iload_n 0, 1) := by decide +kernel
theorem dS_bass_1 : decode (xb yyS_bass) 1 = .ok (.iconst 1, 1) := by decide +kernel
theorem dS_bass_2 : decode (xb yyS_bass) 2 = .ok (.if_icmp .gt 7, 3) := by decide +kernel
theorem dS_bass_5 : decode (xb yyS_bass) 5 = .ok (.iload_n 1, 1) := by decide +kernel
theorem dS_bass_6 : decode (xb yyS_bass) 6 = .ok (.goto 4, 3) := by decide +kernel
theorem dS_bass_9 : decode (xb yyS_bass) 9 = .ok (.iconst 0, 1) := by decide +kernel
theorem dS_bass_10 : decode (xb yyS_bass) 10 = .ok (.ireturn, 1) := by decide +kernel
def fS_bass  (v0 : Int32) (v1 : Int32) : Option (Int32) := (if (1 : Int32) < v0 then some (0 : Int32) else some v1)
set_option maxRecDepth 100000 in
set_option maxHeartbeats 4000000 in
theorem kS_bass (G : xG)   (S : xS)  (v0 : Int32) (v1 : Int32) : ∀ a, fS_bass  v0 v1 = some a → xCt G yyS_bass [.int v0, .int v1] S (some (.int a)) S := by
  refine xR_ct (em := (emi S)) rfl (Nat.le_of_ble_eq_true rfl) ?_
  show xR G yyS_bass _ 0 [(0, .int v0), (1, .int v1)] [] _ _
  unfold fS_bass
  refine xR_iln 0 0 dS_bass_0 rfl rfl ?_
  refine xR_ic 1 (1 : Int32) dS_bass_1 (by decide) ?_
  refine xR_icgt 2 9 dS_bass_2 (by decide) ?_ ?_
  · refine xR_ic 9 (0 : Int32) dS_bass_9 (by decide) ?_
    exact xR_iret 10 rfl rfl dS_bass_10
  · refine xR_iln 5 1 dS_bass_5 rfl rfl ?_
    refine xR_goto 6 10 dS_bass_6 (by decide) ?_
    exact xR_iret 10 rfl rfl dS_bass_10
theorem dS_playBy_0 : decode (xb yyS_playBy) 0 = .ok (.iload_n 0, 1) := by decide +kernel
theorem dS_playBy_1 : decode (xb yyS_playBy) 1 = .ok (.tableswitch 75 1 5 #[35, 41, 47, 57, 65], 35) := by decide +kernel
theorem dS_playBy_36 : decode (xb yyS_playBy) 36 = .ok (.iload_n 2, 1) := by decide +kernel
theorem dS_playBy_37 : decode (xb yyS_playBy) 37 = .ok (.iload_n 3, 1) := by decide +kernel
theorem dS_playBy_38 : decode (xb yyS_playBy) 38 = .ok (.invokestatic 7, 3) := by decide +kernel
theorem dS_playBy_41 : decode (xb yyS_playBy) 41 = .ok (.ireturn, 1) := by decide +kernel
theorem dS_playBy_42 : decode (xb yyS_playBy) 42 = .ok (.iload_n 1, 1) := by decide +kernel
theorem dS_playBy_43 : decode (xb yyS_playBy) 43 = .ok (.iload_n 2, 1) := by decide +kernel
theorem dS_playBy_44 : decode (xb yyS_playBy) 44 = .ok (.invokestatic 13, 3) := by decide +kernel
theorem dS_playBy_47 : decode (xb yyS_playBy) 47 = .ok (.ireturn, 1) := by decide +kernel
theorem dS_playBy_48 : decode (xb yyS_playBy) 48 = .ok (.iload_n 2, 1) := by decide +kernel
theorem dS_playBy_49 : decode (xb yyS_playBy) 49 = .ok (.iload_n 3, 1) := by decide +kernel
theorem dS_playBy_50 : decode (xb yyS_playBy) 50 = .ok (.invokestatic 7, 3) := by decide +kernel
theorem dS_playBy_53 : decode (xb yyS_playBy) 53 = .ok (.iload_n 3, 1) := by decide +kernel
theorem dS_playBy_54 : decode (xb yyS_playBy) 54 = .ok (.invokestatic 16, 3) := by decide +kernel
theorem dS_playBy_57 : decode (xb yyS_playBy) 57 = .ok (.ireturn, 1) := by decide +kernel
theorem dS_playBy_58 : decode (xb yyS_playBy) 58 = .ok (.iload_n 1, 1) := by decide +kernel
theorem dS_playBy_59 : decode (xb yyS_playBy) 59 = .ok (.iload_n 2, 1) := by decide +kernel
theorem dS_playBy_60 : decode (xb yyS_playBy) 60 = .ok (.iload 4, 2) := by decide +kernel
theorem dS_playBy_62 : decode (xb yyS_playBy) 62 = .ok (.invokestatic 19, 3) := by decide +kernel
theorem dS_playBy_65 : decode (xb yyS_playBy) 65 = .ok (.ireturn, 1) := by decide +kernel
theorem dS_playBy_66 : decode (xb yyS_playBy) 66 = .ok (.iload_n 1, 1) := by decide +kernel
theorem dS_playBy_67 : decode (xb yyS_playBy) 67 = .ok (.iload_n 1, 1) := by decide +kernel
theorem dS_playBy_68 : decode (xb yyS_playBy) 68 = .ok (.iload_n 2, 1) := by decide +kernel
theorem dS_playBy_69 : decode (xb yyS_playBy) 69 = .ok (.invokestatic 13, 3) := by decide +kernel
theorem dS_playBy_72 : decode (xb yyS_playBy) 72 = .ok (.invokestatic 23, 3) := by decide +kernel
theorem dS_playBy_75 : decode (xb yyS_playBy) 75 = .ok (.ireturn, 1) := by decide +kernel
theorem dS_playBy_76 : decode (xb yyS_playBy) 76 = .ok (.iload_n 2, 1) := by decide +kernel
theorem dS_playBy_77 : decode (xb yyS_playBy) 77 = .ok (.ireturn, 1) := by decide +kernel
def fS_playBy  (v0 : Int32) (v1 : Int32) (v2 : Int32) (v3 : Int32) (v4 : Int32) : Option (Int32) := (if v0 = (1 : Int32) then (fS_lent v2 v3).bind fun r38 => some r38 else (if v0 = (2 : Int32) then (fS_cello v1 v2).bind fun r44 => some r44 else (if v0 = (3 : Int32) then (fS_lent v2 v3).bind fun r50 => (fS_tenement r50 v3).bind fun r54 => some r54 else (if v0 = (4 : Int32) then (fS_squeak v1 v2 v4).bind fun r62 => some r62 else (if v0 = (5 : Int32) then (fS_cello v1 v2).bind fun r69 => (fS_bass v1 r69).bind fun r72 => some r72 else some v2)))))
set_option maxRecDepth 100000 in
set_option maxHeartbeats 4000000 in
theorem kS_playBy (G : xG)   (S : xS)  (v0 : Int32) (v1 : Int32) (v2 : Int32) (v3 : Int32) (v4 : Int32) : ∀ a, fS_playBy  v0 v1 v2 v3 v4 = some a → xCt G yyS_playBy [.int v0, .int v1, .int v2, .int v3, .int v4] S (some (.int a)) S := by
  refine xR_ct (em := (emi S)) rfl (Nat.le_of_ble_eq_true rfl) ?_
  show xR G yyS_playBy _ 0 [(0, .int v0), (1, .int v1), (2, .int v2), (3, .int v3), (4, .int v4)] [] _ _
  unfold fS_playBy
  refine xR_iln 0 0 dS_playBy_0 rfl rfl ?_
  refine xR_tsw 1 36 (1 : Int32) dS_playBy_1 (by decide) (by decide) rfl (by decide) ?_ (fun hs1_0 => ?_)
  · refine xR_iln 36 2 dS_playBy_36 rfl rfl ?_
    refine xR_iln 37 3 dS_playBy_37 rfl rfl ?_
    refine xR_callSi 38 cs_S_lent ml_RX3_7 ⟨Nat.le_of_ble_eq_true rfl, Nat.le_of_ble_eq_true rfl⟩ [.int v2, .int v3] rfl rfl (Nat.le_of_ble_eq_true rfl) dS_playBy_38 (kS_lent G S v2 v3) (fun r38 => ?_)
    exact xR_iret 41 rfl rfl dS_playBy_41
  refine xR_tsw 1 42 (2 : Int32) dS_playBy_1 (by decide) (by decide) rfl (by decide) ?_ (fun hs1_1 => ?_)
  · refine xR_iln 42 1 dS_playBy_42 rfl rfl ?_
    refine xR_iln 43 2 dS_playBy_43 rfl rfl ?_
    refine xR_callSi 44 cs_S_cello ml_RX3_13 ⟨Nat.le_of_ble_eq_true rfl, Nat.le_of_ble_eq_true rfl⟩ [.int v1, .int v2] rfl rfl (Nat.le_of_ble_eq_true rfl) dS_playBy_44 (kS_cello G S v1 v2) (fun r44 => ?_)
    exact xR_iret 47 rfl rfl dS_playBy_47
  refine xR_tsw 1 48 (3 : Int32) dS_playBy_1 (by decide) (by decide) rfl (by decide) ?_ (fun hs1_2 => ?_)
  · refine xR_iln 48 2 dS_playBy_48 rfl rfl ?_
    refine xR_iln 49 3 dS_playBy_49 rfl rfl ?_
    refine xR_callSi 50 cs_S_lent ml_RX3_7 ⟨Nat.le_of_ble_eq_true rfl, Nat.le_of_ble_eq_true rfl⟩ [.int v2, .int v3] rfl rfl (Nat.le_of_ble_eq_true rfl) dS_playBy_50 (kS_lent G S v2 v3) (fun r50 => ?_)
    refine xR_iln 53 3 dS_playBy_53 rfl rfl ?_
    refine xR_callSi 54 cs_S_tenement ml_RX3_16 ⟨Nat.le_of_ble_eq_true rfl, Nat.le_of_ble_eq_true rfl⟩ [.int r50, .int v3] rfl rfl (Nat.le_of_ble_eq_true rfl) dS_playBy_54 (kS_tenement G S r50 v3) (fun r54 => ?_)
    exact xR_iret 57 rfl rfl dS_playBy_57
  refine xR_tsw 1 58 (4 : Int32) dS_playBy_1 (by decide) (by decide) rfl (by decide) ?_ (fun hs1_3 => ?_)
  · refine xR_iln 58 1 dS_playBy_58 rfl rfl ?_
    refine xR_iln 59 2 dS_playBy_59 rfl rfl ?_
    refine xR_il 60 4 dS_playBy_60 rfl ?_
    refine xR_callSi 62 cs_S_squeak ml_RX3_19 ⟨Nat.le_of_ble_eq_true rfl, Nat.le_of_ble_eq_true rfl⟩ [.int v1, .int v2, .int v4] rfl rfl (Nat.le_of_ble_eq_true rfl) dS_playBy_62 (kS_squeak G S v1 v2 v4) (fun r62 => ?_)
    exact xR_iret 65 rfl rfl dS_playBy_65
  refine xR_tsw 1 66 (5 : Int32) dS_playBy_1 (by decide) (by decide) rfl (by decide) ?_ (fun hs1_4 => ?_)
  · refine xR_iln 66 1 dS_playBy_66 rfl rfl ?_
    refine xR_iln 67 1 dS_playBy_67 rfl rfl ?_
    refine xR_iln 68 2 dS_playBy_68 rfl rfl ?_
    refine xR_callSi 69 cs_S_cello ml_RX3_13 ⟨Nat.le_of_ble_eq_true rfl, Nat.le_of_ble_eq_true rfl⟩ [.int v1, .int v2] rfl rfl (Nat.le_of_ble_eq_true rfl) dS_playBy_69 (kS_cello G S v1 v2) (fun r69 => ?_)
    refine xR_callSi 72 cs_S_bass ml_RX3_23 ⟨Nat.le_of_ble_eq_true rfl, Nat.le_of_ble_eq_true rfl⟩ [.int v1, .int r69] rfl rfl (Nat.le_of_ble_eq_true rfl) dS_playBy_72 (kS_bass G S v1 r69) (fun r72 => ?_)
    exact xR_iret 75 rfl rfl dS_playBy_75
  refine xR_tso 1 76 dS_playBy_1 (by have e0 := lv_neT hs1_0 (a := 1) rfl; have e1 := lv_neT hs1_1 (a := 2) rfl; have e2 := lv_neT hs1_2 (a := 3) rfl; have e3 := lv_neT hs1_3 (a := 4) rfl; have e4 := lv_neT hs1_4 (a := 5) rfl; omega) (by decide) ?_
  refine xR_iln 76 2 dS_playBy_76 rfl rfl ?_
  exact xR_iret 77 rfl rfl dS_playBy_77
theorem dH_isPartOf_0 : decode (xb yyH_isPartOf) 0 = .ok (.iload_n 0, 1) := by decide +kernel
theorem dH_isPartOf_1 : decode (xb yyH_isPartOf) 1 = .ok (.iload_n 1, 1) := by decide +kernel
theorem dH_isPartOf_2 : decode (xb yyH_isPartOf) 2 = .ok (.iconst (-1), 1) := by decide +kernel
theorem dH_isPartOf_3 : decode (xb yyH_isPartOf) 3 = .ok (.ixor, 1) := by decide +kernel
theorem dH_isPartOf_4 : decode (xb yyH_isPartOf) 4 = .ok (.iand, 1) := by decide +kernel
theorem dH_isPartOf_5 : decode (xb yyH_isPartOf) 5 = .ok (.ifCond .ne 7, 3) := by decide +kernel
theorem dH_isPartOf_8 : decode (xb yyH_isPartOf) 8 = .ok (.iconst 1, 1) := by decide +kernel
theorem dH_isPartOf_9 : decode (xb yyH_isPartOf) 9 = .ok (.goto 4, 3) := by decide +kernel
theorem dH_isPartOf_12 : decode (xb yyH_isPartOf) 12 = .ok (.iconst 0, 1) := by decide +kernel
theorem dH_isPartOf_13 : decode (xb yyH_isPartOf) 13 = .ok (.ireturn, 1) := by decide +kernel
def fH_isPartOf  (v0 : Int32) (v1 : Int32) : Option (Int32) := (if (v0 &&& (v1 ^^^ (-1 : Int32))) = 0 then some (xnb (1 : Int32)) else some (xnb (0 : Int32)))
set_option maxRecDepth 100000 in
set_option maxHeartbeats 4000000 in
theorem kH_isPartOf (G : xG)   (S : xS)  (v0 : Int32) (v1 : Int32) : ∀ a, fH_isPartOf  v0 v1 = some a → xCt G yyH_isPartOf [.int v0, .int v1] S (some (.int a)) S := by
  refine xR_ct (em := (emi S)) rfl (Nat.le_of_ble_eq_true rfl) ?_
  show xR G yyH_isPartOf _ 0 [(0, .int v0), (1, .int v1)] [] _ _
  unfold fH_isPartOf
  refine xR_iln 0 0 dH_isPartOf_0 rfl rfl ?_
  refine xR_iln 1 1 dH_isPartOf_1 rfl rfl ?_
  refine xR_ic 2 (-1 : Int32) dH_isPartOf_2 (by decide) ?_
  refine xR_ixor 3 dH_isPartOf_3 ?_
  refine xR_iand 4 dH_isPartOf_4 ?_
  refine xR_ifne 5 12 dH_isPartOf_5 (by decide) ?_ ?_
  · refine xR_ic 12 (0 : Int32) dH_isPartOf_12 (by decide) ?_
    exact xR_zret 13 rfl rfl dH_isPartOf_13
  · refine xR_ic 8 (1 : Int32) dH_isPartOf_8 (by decide) ?_
    refine xR_goto 9 13 dH_isPartOf_9 (by decide) ?_
    exact xR_zret 13 rfl rfl dH_isPartOf_13
theorem dH_firstGets_0 : decode (xb yyH_firstGets) 0 = .ok (.iload_n 1, 1) := by decide +kernel
theorem dH_firstGets_1 : decode (xb yyH_firstGets) 1 = .ok (.iload_n 2, 1) := by decide +kernel
theorem dH_firstGets_2 : decode (xb yyH_firstGets) 2 = .ok (.if_icmp .lt 9, 3) := by decide +kernel
theorem dH_firstGets_5 : decode (xb yyH_firstGets) 5 = .ok (.iload_n 0, 1) := by decide +kernel
theorem dH_firstGets_6 : decode (xb yyH_firstGets) 6 = .ok (.iload_n 1, 1) := by decide +kernel
theorem dH_firstGets_7 : decode (xb yyH_firstGets) 7 = .ok (.isub, 1) := by decide +kernel
theorem dH_firstGets_8 : decode (xb yyH_firstGets) 8 = .ok (.goto 7, 3) := by decide +kernel
theorem dH_firstGets_11 : decode (xb yyH_firstGets) 11 = .ok (.iload_n 1, 1) := by decide +kernel
theorem dH_firstGets_12 : decode (xb yyH_firstGets) 12 = .ok (.iconst 2, 1) := by decide +kernel
theorem dH_firstGets_13 : decode (xb yyH_firstGets) 13 = .ok (.idiv, 1) := by decide +kernel
theorem dH_firstGets_14 : decode (xb yyH_firstGets) 14 = .ok (.ineg, 1) := by decide +kernel
theorem dH_firstGets_15 : decode (xb yyH_firstGets) 15 = .ok (.ireturn, 1) := by decide +kernel
def fH_firstGets  (v0 : Int32) (v1 : Int32) (v2 : Int32) : Option (Int32) := (if v1 < v2 then some (-(v1 / (2 : Int32))) else some (v0 - v1))
set_option maxRecDepth 100000 in
set_option maxHeartbeats 4000000 in
theorem kH_firstGets (G : xG)   (S : xS)  (v0 : Int32) (v1 : Int32) (v2 : Int32) : ∀ a, fH_firstGets  v0 v1 v2 = some a → xCt G yyH_firstGets [.int v0, .int v1, .int v2] S (some (.int a)) S := by
  refine xR_ct (em := (emi S)) rfl (Nat.le_of_ble_eq_true rfl) ?_
  show xR G yyH_firstGets _ 0 [(0, .int v0), (1, .int v1), (2, .int v2)] [] _ _
  unfold fH_firstGets
  refine xR_iln 0 1 dH_firstGets_0 rfl rfl ?_
  refine xR_iln 1 2 dH_firstGets_1 rfl rfl ?_
  refine xR_iclt 2 11 dH_firstGets_2 (by decide) ?_ ?_
  · refine xR_iln 11 1 dH_firstGets_11 rfl rfl ?_
    refine xR_ic 12 (2 : Int32) dH_firstGets_12 (by decide) ?_
    refine xR_idiv 13 dH_firstGets_13 (by decide) ?_
    refine xR_ineg 14 dH_firstGets_14 ?_
    exact xR_iret 15 rfl rfl dH_firstGets_15
  · refine xR_iln 5 0 dH_firstGets_5 rfl rfl ?_
    refine xR_iln 6 1 dH_firstGets_6 rfl rfl ?_
    refine xR_isub 7 dH_firstGets_7 ?_
    refine xR_goto 8 15 dH_firstGets_8 (by decide) ?_
    exact xR_iret 15 rfl rfl dH_firstGets_15
theorem dH_secondGets_0 : decode (xb yyH_secondGets) 0 = .ok (.iload_n 2, 1) := by decide +kernel
theorem dH_secondGets_1 : decode (xb yyH_secondGets) 1 = .ok (.iload_n 1, 1) := by decide +kernel
theorem dH_secondGets_2 : decode (xb yyH_secondGets) 2 = .ok (.if_icmp .le 9, 3) := by decide +kernel
theorem dH_secondGets_5 : decode (xb yyH_secondGets) 5 = .ok (.iload_n 0, 1) := by decide +kernel
theorem dH_secondGets_6 : decode (xb yyH_secondGets) 6 = .ok (.iload_n 2, 1) := by decide +kernel
theorem dH_secondGets_7 : decode (xb yyH_secondGets) 7 = .ok (.isub, 1) := by decide +kernel
theorem dH_secondGets_8 : decode (xb yyH_secondGets) 8 = .ok (.goto 7, 3) := by decide +kernel
theorem dH_secondGets_11 : decode (xb yyH_secondGets) 11 = .ok (.iload_n 2, 1) := by decide +kernel
theorem dH_secondGets_12 : decode (xb yyH_secondGets) 12 = .ok (.iconst 2, 1) := by decide +kernel
theorem dH_secondGets_13 : decode (xb yyH_secondGets) 13 = .ok (.idiv, 1) := by decide +kernel
theorem dH_secondGets_14 : decode (xb yyH_secondGets) 14 = .ok (.ineg, 1) := by decide +kernel
theorem dH_secondGets_15 : decode (xb yyH_secondGets) 15 = .ok (.ireturn, 1) := by decide +kernel
def fH_secondGets  (v0 : Int32) (v1 : Int32) (v2 : Int32) : Option (Int32) := (if v2 ≤ v1 then some (-(v2 / (2 : Int32))) else some (v0 - v2))
set_option maxRecDepth 100000 in
set_option maxHeartbeats 4000000 in
theorem kH_secondGets (G : xG)   (S : xS)  (v0 : Int32) (v1 : Int32) (v2 : Int32) : ∀ a, fH_secondGets  v0 v1 v2 = some a → xCt G yyH_secondGets [.int v0, .int v1, .int v2] S (some (.int a)) S := by
  refine xR_ct (em := (emi S)) rfl (Nat.le_of_ble_eq_true rfl) ?_
  show xR G yyH_secondGets _ 0 [(0, .int v0), (1, .int v1), (2, .int v2)] [] _ _
  unfold fH_secondGets
  refine xR_iln 0 2 dH_secondGets_0 rfl rfl ?_
  refine xR_iln 1 1 dH_secondGets_1 rfl rfl ?_
  refine xR_icle 2 11 dH_secondGets_2 (by decide) ?_ ?_
  · refine xR_iln 11 2 dH_secondGets_11 rfl rfl ?_
    refine xR_ic 12 (2 : Int32) dH_secondGets_12 (by decide) ?_
    refine xR_idiv 13 dH_secondGets_13 (by decide) ?_
    refine xR_ineg 14 dH_secondGets_14 ?_
    exact xR_iret 15 rfl rfl dH_secondGets_15
  · refine xR_iln 5 0 dH_secondGets_5 rfl rfl ?_
    refine xR_iln 6 2 dH_secondGets_6 rfl rfl ?_
    refine xR_isub 7 dH_secondGets_7 ?_
    refine xR_goto 8 15 dH_secondGets_8 (by decide) ?_
    exact xR_iret 15 rfl rfl dH_secondGets_15
theorem dH_rests_0 : decode (xb yyH_rests) 0 = .ok (.iconst 0, 1) := by decide +kernel
theorem dH_rests_1 : decode (xb yyH_rests) 1 = .ok (.istore_n 3, 1) := by decide +kernel
theorem dH_rests_2 : decode (xb yyH_rests) 2 = .ok (.iload_n 3, 1) := by decide +kernel
theorem dH_rests_3 : decode (xb yyH_rests) 3 = .ok (.bipush 10, 2) := by decide +kernel
theorem dH_rests_5 : decode (xb yyH_rests) 5 = .ok (.if_icmp .ge 41, 3) := by decide +kernel
theorem dH_rests_8 : decode (xb yyH_rests) 8 = .ok (.iload_n 0, 1) := by decide +kernel
theorem dH_rests_9 : decode (xb yyH_rests) 9 = .ok (.iload_n 3, 1) := by decide +kernel
theorem dH_rests_10 : decode (xb yyH_rests) 10 = .ok (.iload_n 2, 1) := by decide +kernel
theorem dH_rests_11 : decode (xb yyH_rests) 11 = .ok (.invokestatic 349, 3) := by decide +kernel
theorem dH_rests_14 : decode (xb yyH_rests) 14 = .ok (.iload_n 0, 1) := by decide +kernel
theorem dH_rests_15 : decode (xb yyH_rests) 15 = .ok (.iload_n 1, 1) := by decide +kernel
theorem dH_rests_16 : decode (xb yyH_rests) 16 = .ok (.iload_n 2, 1) := by decide +kernel
theorem dH_rests_17 : decode (xb yyH_rests) 17 = .ok (.invokestatic 349, 3) := by decide +kernel
theorem dH_rests_20 : decode (xb yyH_rests) 20 = .ok (.if_icmp .gt 18, 3) := by decide +kernel
theorem dH_rests_23 : decode (xb yyH_rests) 23 = .ok (.iload_n 0, 1) := by decide +kernel
theorem dH_rests_24 : decode (xb yyH_rests) 24 = .ok (.iload_n 1, 1) := by decide +kernel
theorem dH_rests_25 : decode (xb yyH_rests) 25 = .ok (.iload_n 3, 1) := by decide +kernel
theorem dH_rests_26 : decode (xb yyH_rests) 26 = .ok (.invokestatic 352, 3) := by decide +kernel
theorem dH_rests_29 : decode (xb yyH_rests) 29 = .ok (.iload_n 0, 1) := by decide +kernel
theorem dH_rests_30 : decode (xb yyH_rests) 30 = .ok (.iload_n 1, 1) := by decide +kernel
theorem dH_rests_31 : decode (xb yyH_rests) 31 = .ok (.iload_n 2, 1) := by decide +kernel
theorem dH_rests_32 : decode (xb yyH_rests) 32 = .ok (.invokestatic 352, 3) := by decide +kernel
theorem dH_rests_35 : decode (xb yyH_rests) 35 = .ok (.if_icmp .le 5, 3) := by decide +kernel
theorem dH_rests_38 : decode (xb yyH_rests) 38 = .ok (.iconst 0, 1) := by decide +kernel
theorem dH_rests_39 : decode (xb yyH_rests) 39 = .ok (.ireturn, 1) := by decide +kernel
theorem dH_rests_40 : decode (xb yyH_rests) 40 = .ok (.iinc 3 1, 3) := by decide +kernel
theorem dH_rests_43 : decode (xb yyH_rests) 43 = .ok (.goto (-41), 3) := by decide +kernel
theorem dH_rests_46 : decode (xb yyH_rests) 46 = .ok (.iconst 1, 1) := by decide +kernel
theorem dH_rests_47 : decode (xb yyH_rests) 47 = .ok (.ireturn, 1) := by decide +kernel
def fH_rests_l2  : Nat → Int32 → Int32 → Int32 → Int32 → Option (Int32)
  | 0, _, _, _, _ => none
  | n + 1, v0, v1, v2, v3 => (if (10 : Int32) ≤ v3 then some (xnb (1 : Int32)) else (fH_firstGets v0 v3 v2).bind fun r11 => (fH_firstGets v0 v1 v2).bind fun r17 => (if r17 < r11 then some (xnb (0 : Int32)) else (fH_secondGets v0 v1 v3).bind fun r26 => (fH_secondGets v0 v1 v2).bind fun r32 => (if r26 ≤ r32 then fH_rests_l2 n v0 v1 v2 (v3 + 1) else some (xnb (0 : Int32)))))
def fH_rests  (v0 : Int32) (v1 : Int32) (v2 : Int32) : Option (Int32) := fH_rests_l2 xfu v0 v1 v2 (0 : Int32)
set_option maxRecDepth 100000 in
set_option maxHeartbeats 4000000 in
theorem kH_rests_l2 (G : xG)   (S : xS)    : ∀ (n : Nat) (v0 : Int32) (v1 : Int32) (v2 : Int32) (v3 : Int32), xR G yyH_rests (emi S) 2 [(0, .int v0), (1, .int v1), (2, .int v2), (3, .int v3)] [] S (fH_rests_l2  n v0 v1 v2 v3) := by
  intro n
  induction n with
  | zero =>
    intro v0 v1 v2 v3
    rw [fH_rests_l2]
    exact xR_none
  | succ n ih =>
    intro v0 v1 v2 v3
    rw [fH_rests_l2]
    refine xR_iln 2 3 dH_rests_2 rfl rfl ?_
    refine xR_bp 3 (10 : Int32) dH_rests_3 (by decide) ?_
    refine xR_icge 5 46 dH_rests_5 (by decide) ?_ ?_
    · refine xR_ic 46 (1 : Int32) dH_rests_46 (by decide) ?_
      exact xR_zret 47 rfl rfl dH_rests_47
    · refine xR_iln 8 0 dH_rests_8 rfl rfl ?_
      refine xR_iln 9 3 dH_rests_9 rfl rfl ?_
      refine xR_iln 10 2 dH_rests_10 rfl rfl ?_
      refine xR_callSi 11 cs_H_firstGets ml_RX8_349 ⟨Nat.le_of_ble_eq_true rfl, Nat.le_of_ble_eq_true rfl⟩ [.int v0, .int v3, .int v2] rfl rfl (Nat.le_of_ble_eq_true rfl) dH_rests_11 (kH_firstGets G S v0 v3 v2) (fun r11 => ?_)
      refine xR_iln 14 0 dH_rests_14 rfl rfl ?_
      refine xR_iln 15 1 dH_rests_15 rfl rfl ?_
      refine xR_iln 16 2 dH_rests_16 rfl rfl ?_
      refine xR_callSi 17 cs_H_firstGets ml_RX8_349 ⟨Nat.le_of_ble_eq_true rfl, Nat.le_of_ble_eq_true rfl⟩ [.int v0, .int v1, .int v2] rfl rfl (Nat.le_of_ble_eq_true rfl) dH_rests_17 (kH_firstGets G S v0 v1 v2) (fun r17 => ?_)
      refine xR_icgt 20 38 dH_rests_20 (by decide) ?_ ?_
      · refine xR_ic 38 (0 : Int32) dH_rests_38 (by decide) ?_
        exact xR_zret 39 rfl rfl dH_rests_39
      · refine xR_iln 23 0 dH_rests_23 rfl rfl ?_
        refine xR_iln 24 1 dH_rests_24 rfl rfl ?_
        refine xR_iln 25 3 dH_rests_25 rfl rfl ?_
        refine xR_callSi 26 cs_H_secondGets ml_RX8_352 ⟨Nat.le_of_ble_eq_true rfl, Nat.le_of_ble_eq_true rfl⟩ [.int v0, .int v1, .int v3] rfl rfl (Nat.le_of_ble_eq_true rfl) dH_rests_26 (kH_secondGets G S v0 v1 v3) (fun r26 => ?_)
        refine xR_iln 29 0 dH_rests_29 rfl rfl ?_
        refine xR_iln 30 1 dH_rests_30 rfl rfl ?_
        refine xR_iln 31 2 dH_rests_31 rfl rfl ?_
        refine xR_callSi 32 cs_H_secondGets ml_RX8_352 ⟨Nat.le_of_ble_eq_true rfl, Nat.le_of_ble_eq_true rfl⟩ [.int v0, .int v1, .int v2] rfl rfl (Nat.le_of_ble_eq_true rfl) dH_rests_32 (kH_secondGets G S v0 v1 v2) (fun r32 => ?_)
        refine xR_icle 35 40 dH_rests_35 (by decide) ?_ ?_
        · refine xR_iinc 40 3 (v3 + 1) ([(3, .int (v3 + 1)), (0, .int v0), (1, .int v1), (2, .int v2)]) dH_rests_40 rfl rfl (by decide) rfl ?_
          refine xR_goto 43 2 dH_rests_43 (by decide) ?_
          exact xR_sub [1, 2, 3, 0] rfl (ih v0 v1 v2 (v3 + 1))
        · refine xR_ic 38 (0 : Int32) dH_rests_38 (by decide) ?_
          exact xR_zret 39 rfl rfl dH_rests_39
set_option maxRecDepth 100000 in
set_option maxHeartbeats 4000000 in
theorem kH_rests (G : xG)   (S : xS)  (v0 : Int32) (v1 : Int32) (v2 : Int32) : ∀ a, fH_rests  v0 v1 v2 = some a → xCt G yyH_rests [.int v0, .int v1, .int v2] S (some (.int a)) S := by
  refine xR_ct (em := (emi S)) rfl (Nat.le_of_ble_eq_true rfl) ?_
  show xR G yyH_rests _ 0 [(0, .int v0), (1, .int v1), (2, .int v2)] [] _ _
  unfold fH_rests
  refine xR_ic 0 (0 : Int32) dH_rests_0 (by decide) ?_
  refine xR_isn 1 ([(3, .int (0 : Int32)), (0, .int v0), (1, .int v1), (2, .int v2)]) dH_rests_1 rfl (by decide) rfl ?_
  exact xR_sub [1, 2, 3, 0] rfl (kH_rests_l2 G S xfu v0 v1 v2 (0 : Int32))
theorem dH_power_0 : decode (xb yyH_power) 0 = .ok (.lconst 1, 1) := by decide +kernel
theorem dH_power_1 : decode (xb yyH_power) 1 = .ok (.lstore_n 3, 1) := by decide +kernel
theorem dH_power_2 : decode (xb yyH_power) 2 = .ok (.iconst 0, 1) := by decide +kernel
theorem dH_power_3 : decode (xb yyH_power) 3 = .ok (.istore 5, 2) := by decide +kernel
theorem dH_power_5 : decode (xb yyH_power) 5 = .ok (.iload 5, 2) := by decide +kernel
theorem dH_power_7 : decode (xb yyH_power) 7 = .ok (.iload_n 2, 1) := by decide +kernel
theorem dH_power_8 : decode (xb yyH_power) 8 = .ok (.if_icmp .ge 13, 3) := by decide +kernel
theorem dH_power_11 : decode (xb yyH_power) 11 = .ok (.lload_n 3, 1) := by decide +kernel
theorem dH_power_12 : decode (xb yyH_power) 12 = .ok (.lload_n 0, 1) := by decide +kernel
theorem dH_power_13 : decode (xb yyH_power) 13 = .ok (.lmul, 1) := by decide +kernel
theorem dH_power_14 : decode (xb yyH_power) 14 = .ok (.lstore_n 3, 1) := by decide +kernel
theorem dH_power_15 : decode (xb yyH_power) 15 = .ok (.iinc 5 1, 3) := by decide +kernel
theorem dH_power_18 : decode (xb yyH_power) 18 = .ok (.goto (-13), 3) := by decide +kernel
theorem dH_power_21 : decode (xb yyH_power) 21 = .ok (.lload_n 3, 1) := by decide +kernel
theorem dH_power_22 : decode (xb yyH_power) 22 = .ok (.lreturn, 1) := by decide +kernel
def fH_power_l5  : Nat → Int64 → Int32 → Int64 → Int32 → Option (Int64)
  | 0, _, _, _, _ => none
  | n + 1, v0, v2, v3, v5 => (if v2 ≤ v5 then some v3 else fH_power_l5 n v0 v2 (v3 * v0) (v5 + 1))
def fH_power  (v0 : Int64) (v2 : Int32) : Option (Int64) := fH_power_l5 xfu v0 v2 (1 : Int64) (0 : Int32)
set_option maxRecDepth 100000 in
set_option maxHeartbeats 4000000 in
theorem kH_power_l5 (G : xG)   (S : xS)    : ∀ (n : Nat) (v0 : Int64) (v2 : Int32) (v3 : Int64) (v5 : Int32), xR G yyH_power (eml S) 5 [(0, .long v0), (2, .int v2), (3, .long v3), (5, .int v5)] [] S (fH_power_l5  n v0 v2 v3 v5) := by
  intro n
  induction n with
  | zero =>
    intro v0 v2 v3 v5
    rw [fH_power_l5]
    exact xR_none
  | succ n ih =>
    intro v0 v2 v3 v5
    rw [fH_power_l5]
    refine xR_il 5 3 dH_power_5 rfl ?_
    refine xR_iln 7 1 dH_power_7 rfl rfl ?_
    refine xR_icge 8 21 dH_power_8 (by decide) ?_ ?_
    · refine xR_lln 21 2 dH_power_21 rfl rfl ?_
      exact xR_lret 22 rfl rfl dH_power_22
    · refine xR_lln 11 2 dH_power_11 rfl rfl ?_
      refine xR_lln 12 0 dH_power_12 rfl rfl ?_
      refine xR_lmul 13 dH_power_13 ?_
      refine xR_lsn 14 ([(3, .long (v3 * v0)), (0, .long v0), (2, .int v2), (5, .int v5)]) dH_power_14 rfl (by decide) rfl ?_
      refine xR_iinc 15 3 (v5 + 1) ([(5, .int (v5 + 1)), (3, .long (v3 * v0)), (0, .long v0), (2, .int v2)]) dH_power_15 rfl rfl (by decide) rfl ?_
      refine xR_goto 18 5 dH_power_18 (by decide) ?_
      exact xR_sub [2, 3, 1, 0] rfl (ih v0 v2 (v3 * v0) (v5 + 1))
set_option maxRecDepth 100000 in
set_option maxHeartbeats 4000000 in
theorem kH_power (G : xG)   (S : xS)  (v0 : Int64) (v2 : Int32) : ∀ a, fH_power  v0 v2 = some a → xCt G yyH_power [.long v0, .int v2] S (some (.long a)) S := by
  refine xR_ct (em := (eml S)) rfl (Nat.le_of_ble_eq_true rfl) ?_
  show xR G yyH_power _ 0 [(0, .long v0), (2, .int v2)] [] _ _
  unfold fH_power
  refine xR_lc 0 (1 : Int64) dH_power_0 (by decide) ?_
  refine xR_lsn 1 ([(3, .long (1 : Int64)), (0, .long v0), (2, .int v2)]) dH_power_1 rfl (by decide) rfl ?_
  refine xR_ic 2 (0 : Int32) dH_power_2 (by decide) ?_
  refine xR_is 3 ([(5, .int (0 : Int32)), (3, .long (1 : Int64)), (0, .long v0), (2, .int v2)]) dH_power_3 (by decide) rfl ?_
  exact xR_sub [2, 3, 1, 0] rfl (kH_power_l5 G S xfu v0 v2 (1 : Int64) (0 : Int32))
theorem dH_commonDivisor_0 : decode (xb yyH_commonDivisor) 0 = .ok (.lload_n 0, 1) := by decide +kernel
theorem dH_commonDivisor_1 : decode (xb yyH_commonDivisor) 1 = .ok (.lstore 4, 2) := by decide +kernel
theorem dH_commonDivisor_3 : decode (xb yyH_commonDivisor) 3 = .ok (.lload_n 2, 1) := by decide +kernel
theorem dH_commonDivisor_4 : decode (xb yyH_commonDivisor) 4 = .ok (.lstore 6, 2) := by decide +kernel
theorem dH_commonDivisor_6 : decode (xb yyH_commonDivisor) 6 = .ok (.iconst 0, 1) := by decide +kernel
theorem dH_commonDivisor_7 : decode (xb yyH_commonDivisor) 7 = .ok (.istore 8, 2) := by decide +kernel
theorem dH_commonDivisor_9 : decode (xb yyH_commonDivisor) 9 = .ok (.iload 8, 2) := by decide +kernel
theorem dH_commonDivisor_11 : decode (xb yyH_commonDivisor) 11 = .ok (.bipush 100, 2) := by decide +kernel
theorem dH_commonDivisor_13 : decode (xb yyH_commonDivisor) 13 = .ok (.if_icmp .ge 31, 3) := by decide +kernel
theorem dH_commonDivisor_16 : decode (xb yyH_commonDivisor) 16 = .ok (.lload 6, 2) := by decide +kernel
theorem dH_commonDivisor_18 : decode (xb yyH_commonDivisor) 18 = .ok (.lconst 0, 1) := by decide +kernel
theorem dH_commonDivisor_19 : decode (xb yyH_commonDivisor) 19 = .ok (.lcmp, 1) := by decide +kernel
theorem dH_commonDivisor_20 : decode (xb yyH_commonDivisor) 20 = .ok (.ifCond .le 24, 3) := by decide +kernel
theorem dH_commonDivisor_23 : decode (xb yyH_commonDivisor) 23 = .ok (.lload 4, 2) := by decide +kernel
theorem dH_commonDivisor_25 : decode (xb yyH_commonDivisor) 25 = .ok (.lload 6, 2) := by decide +kernel
theorem dH_commonDivisor_27 : decode (xb yyH_commonDivisor) 27 = .ok (.lrem, 1) := by decide +kernel
theorem dH_commonDivisor_28 : decode (xb yyH_commonDivisor) 28 = .ok (.lstore 9, 2) := by decide +kernel
theorem dH_commonDivisor_30 : decode (xb yyH_commonDivisor) 30 = .ok (.lload 6, 2) := by decide +kernel
theorem dH_commonDivisor_32 : decode (xb yyH_commonDivisor) 32 = .ok (.lstore 4, 2) := by decide +kernel
theorem dH_commonDivisor_34 : decode (xb yyH_commonDivisor) 34 = .ok (.lload 9, 2) := by decide +kernel
theorem dH_commonDivisor_36 : decode (xb yyH_commonDivisor) 36 = .ok (.lstore 6, 2) := by decide +kernel
theorem dH_commonDivisor_38 : decode (xb yyH_commonDivisor) 38 = .ok (.iinc 8 1, 3) := by decide +kernel
theorem dH_commonDivisor_41 : decode (xb yyH_commonDivisor) 41 = .ok (.goto (-32), 3) := by decide +kernel
theorem dH_commonDivisor_44 : decode (xb yyH_commonDivisor) 44 = .ok (.lload 4, 2) := by decide +kernel
theorem dH_commonDivisor_46 : decode (xb yyH_commonDivisor) 46 = .ok (.lreturn, 1) := by decide +kernel
def fH_commonDivisor_l9  : Nat → Int64 → Int64 → Int32 → Option (Int64)
  | 0, _, _, _ => none
  | n + 1, v4, v6, v8 => (if (100 : Int32) ≤ v8 then some v4 else (if (lg_cmp v6 (0 : Int64)) ≤ 0 then some v4 else xdl v6 (fH_commonDivisor_l9 n v6 (v4 - v4 / v6 * v6) (v8 + 1))))
def fH_commonDivisor  (v0 : Int64) (v2 : Int64) : Option (Int64) := fH_commonDivisor_l9 xfu v0 v2 (0 : Int32)
set_option maxRecDepth 100000 in
set_option maxHeartbeats 4000000 in
theorem kH_commonDivisor_l9 (G : xG)   (S : xS)    : ∀ (n : Nat) (v4 : Int64) (v6 : Int64) (v8 : Int32), xR G yyH_commonDivisor (eml S) 9 [(4, .long v4), (6, .long v6), (8, .int v8)] [] S (fH_commonDivisor_l9  n v4 v6 v8) := by
  intro n
  induction n with
  | zero =>
    intro v4 v6 v8
    rw [fH_commonDivisor_l9]
    exact xR_none
  | succ n ih =>
    intro v4 v6 v8
    rw [fH_commonDivisor_l9]
    refine xR_il 9 2 dH_commonDivisor_9 rfl ?_
    refine xR_bp 11 (100 : Int32) dH_commonDivisor_11 (by decide) ?_
    refine xR_icge 13 44 dH_commonDivisor_13 (by decide) ?_ ?_
    · refine xR_ll 44 0 dH_commonDivisor_44 rfl ?_
      exact xR_lret 46 rfl rfl dH_commonDivisor_46
    · refine xR_ll 16 1 dH_commonDivisor_16 rfl ?_
      refine xR_lc 18 (0 : Int64) dH_commonDivisor_18 (by decide) ?_
      refine xR_lcmp 19 dH_commonDivisor_19 ?_
      refine xR_ifle 20 44 dH_commonDivisor_20 (by decide) ?_ ?_
      · refine xR_ll 44 0 dH_commonDivisor_44 rfl ?_
        exact xR_lret 46 rfl rfl dH_commonDivisor_46
      · refine xR_ll 23 0 dH_commonDivisor_23 rfl ?_
        refine xR_ll 25 1 dH_commonDivisor_25 rfl ?_
        refine xR_dl (fun hd27 => ?_)
        refine xR_lrem 27 dH_commonDivisor_27 hd27 ?_
        refine xR_ls 28 ([(9, .long (v4 - v4 / v6 * v6)), (4, .long v4), (6, .long v6), (8, .int v8)]) dH_commonDivisor_28 (by decide) rfl ?_
        refine xR_ll 30 2 dH_commonDivisor_30 rfl ?_
        refine xR_ls 32 ([(4, .long v6), (9, .long (v4 - v4 / v6 * v6)), (6, .long v6), (8, .int v8)]) dH_commonDivisor_32 (by decide) rfl ?_
        refine xR_ll 34 1 dH_commonDivisor_34 rfl ?_
        refine xR_ls 36 ([(6, .long (v4 - v4 / v6 * v6)), (4, .long v6), (9, .long (v4 - v4 / v6 * v6)), (8, .int v8)]) dH_commonDivisor_36 (by decide) rfl ?_
        refine xR_iinc 38 3 (v8 + 1) ([(8, .int (v8 + 1)), (6, .long (v4 - v4 / v6 * v6)), (4, .long v6), (9, .long (v4 - v4 / v6 * v6))]) dH_commonDivisor_38 rfl rfl (by decide) rfl ?_
        refine xR_goto 41 9 dH_commonDivisor_41 (by decide) ?_
        exact xR_sub [2, 1, 0] rfl (ih v6 (v4 - v4 / v6 * v6) (v8 + 1))
set_option maxRecDepth 100000 in
set_option maxHeartbeats 4000000 in
theorem kH_commonDivisor (G : xG)   (S : xS)  (v0 : Int64) (v2 : Int64) : ∀ a, fH_commonDivisor  v0 v2 = some a → xCt G yyH_commonDivisor [.long v0, .long v2] S (some (.long a)) S := by
  refine xR_ct (em := (eml S)) rfl (Nat.le_of_ble_eq_true rfl) ?_
  show xR G yyH_commonDivisor _ 0 [(0, .long v0), (2, .long v2)] [] _ _
  unfold fH_commonDivisor
  refine xR_lln 0 0 dH_commonDivisor_0 rfl rfl ?_
  refine xR_ls 1 ([(4, .long v0), (0, .long v0), (2, .long v2)]) dH_commonDivisor_1 (by decide) rfl ?_
  refine xR_lln 3 2 dH_commonDivisor_3 rfl rfl ?_
  refine xR_ls 4 ([(6, .long v2), (4, .long v0), (0, .long v0), (2, .long v2)]) dH_commonDivisor_4 (by decide) rfl ?_
  refine xR_ic 6 (0 : Int32) dH_commonDivisor_6 (by decide) ?_
  refine xR_is 7 ([(8, .int (0 : Int32)), (6, .long v2), (4, .long v0), (0, .long v0), (2, .long v2)]) dH_commonDivisor_7 (by decide) rfl ?_
  exact xR_sub [2, 1, 0] rfl (kH_commonDivisor_l9 G S xfu v0 v2 (0 : Int32))
theorem dT_mixedInto_0 : decode (xb yyT_mixedInto) 0 = .ok (.lload_n 1, 1) := by decide +kernel
theorem dT_mixedInto_1 : decode (xb yyT_mixedInto) 1 = .ok (.lstore_n 3, 1) := by decide +kernel
theorem dT_mixedInto_2 : decode (xb yyT_mixedInto) 2 = .ok (.iconst 0, 1) := by decide +kernel
theorem dT_mixedInto_3 : decode (xb yyT_mixedInto) 3 = .ok (.istore 5, 2) := by decide +kernel
theorem dT_mixedInto_5 : decode (xb yyT_mixedInto) 5 = .ok (.iload 5, 2) := by decide +kernel
theorem dT_mixedInto_7 : decode (xb yyT_mixedInto) 7 = .ok (.aload_n 0, 1) := by decide +kernel
theorem dT_mixedInto_8 : decode (xb yyT_mixedInto) 8 = .ok (.getfield 28, 3) := by decide +kernel
theorem dT_mixedInto_11 : decode (xb yyT_mixedInto) 11 = .ok (.if_icmp .ge 43, 3) := by decide +kernel
theorem dT_mixedInto_14 : decode (xb yyT_mixedInto) 14 = .ok (.iconst 0, 1) := by decide +kernel
theorem dT_mixedInto_15 : decode (xb yyT_mixedInto) 15 = .ok (.istore 6, 2) := by decide +kernel
theorem dT_mixedInto_17 : decode (xb yyT_mixedInto) 17 = .ok (.iload 6, 2) := by decide +kernel
theorem dT_mixedInto_19 : decode (xb yyT_mixedInto) 19 = .ok (.aload_n 0, 1) := by decide +kernel
theorem dT_mixedInto_20 : decode (xb yyT_mixedInto) 20 = .ok (.getfield 21, 3) := by decide +kernel
theorem dT_mixedInto_23 : decode (xb yyT_mixedInto) 23 = .ok (.if_icmp .ge 25, 3) := by decide +kernel
theorem dT_mixedInto_26 : decode (xb yyT_mixedInto) 26 = .ok (.ldc2_w 40, 3) := by decide +kernel
theorem dT_mixedInto_29 : decode (xb yyT_mixedInto) 29 = .ok (.lload_n 3, 1) := by decide +kernel
theorem dT_mixedInto_30 : decode (xb yyT_mixedInto) 30 = .ok (.lmul, 1) := by decide +kernel
theorem dT_mixedInto_31 : decode (xb yyT_mixedInto) 31 = .ok (.aload_n 0, 1) := by decide +kernel
theorem dT_mixedInto_32 : decode (xb yyT_mixedInto) 32 = .ok (.iload 5, 2) := by decide +kernel
theorem dT_mixedInto_34 : decode (xb yyT_mixedInto) 34 = .ok (.iload 6, 2) := by decide +kernel
theorem dT_mixedInto_36 : decode (xb yyT_mixedInto) 36 = .ok (.invokevirtual 42, 3) := by decide +kernel
theorem dT_mixedInto_39 : decode (xb yyT_mixedInto) 39 = .ok (.i2l, 1) := by decide +kernel
theorem dT_mixedInto_40 : decode (xb yyT_mixedInto) 40 = .ok (.ladd, 1) := by decide +kernel
theorem dT_mixedInto_41 : decode (xb yyT_mixedInto) 41 = .ok (.lstore_n 3, 1) := by decide +kernel
theorem dT_mixedInto_42 : decode (xb yyT_mixedInto) 42 = .ok (.iinc 6 1, 3) := by decide +kernel
theorem dT_mixedInto_45 : decode (xb yyT_mixedInto) 45 = .ok (.goto (-28), 3) := by decide +kernel
theorem dT_mixedInto_48 : decode (xb yyT_mixedInto) 48 = .ok (.iinc 5 1, 3) := by decide +kernel
theorem dT_mixedInto_51 : decode (xb yyT_mixedInto) 51 = .ok (.goto (-46), 3) := by decide +kernel
theorem dT_mixedInto_54 : decode (xb yyT_mixedInto) 54 = .ok (.lload_n 3, 1) := by decide +kernel
theorem dT_mixedInto_55 : decode (xb yyT_mixedInto) 55 = .ok (.lreturn, 1) := by decide +kernel
def fT_mixedInto_l17 (t : Nat) (m : xM) (k5 : Int64 → Int32 → Option (Int64)) : Nat → Int64 → Int32 → Int32 → Option (Int64)
  | 0, _, _, _ => none
  | n + 1, v3, v5, v6 => (if (xwid t) ≤ v6 then k5 v3 (v5 + 1) else (fT_get t m v5 v6).bind fun r36 => fT_mixedInto_l17 t m k5 n (((31 : Int64) * v3) + ((r36).toInt64)) v5 (v6 + 1))
def fT_mixedInto_l5 (t : Nat) (m : xM) : Nat → Int64 → Int32 → Option (Int64)
  | 0, _, _ => none
  | n + 1, v3, v5 => (if (m.1 36 t) ≤ v5 then some v3 else fT_mixedInto_l17 t m (fT_mixedInto_l5 t m n) xfu v3 v5 (0 : Int32))
def fT_mixedInto (t : Nat) (m : xM) (v1 : Int64) : Option (Int64) := fT_mixedInto_l5 t m xfu v1 (0 : Int32)
set_option maxRecDepth 100000 in
set_option maxHeartbeats 4000000 in
theorem kT_mixedInto_l17 (G : xG) (t : Nat) (ht : t < 36) (z : xM) (m : xM) (k5 : Int64 → Int32 → Option (Int64)) (hk5 : ∀ (v3 : Int64) (v5 : Int32), xR G yyT_mixedInto (eml (m, z)) 5 [(0, .ref (xa G (36 + t))), (3, .long v3), (5, .int v5)] [] (m, z) (k5 v3 v5)) : ∀ (n : Nat) (v3 : Int64) (v5 : Int32) (v6 : Int32), xR G yyT_mixedInto (eml (m, z)) 17 [(0, .ref (xa G (36 + t))), (3, .long v3), (5, .int v5), (6, .int v6)] [] (m, z) (fT_mixedInto_l17 t m k5 n v3 v5 v6) := by
  intro n
  induction n with
  | zero =>
    intro v3 v5 v6
    rw [fT_mixedInto_l17]
    exact xR_none
  | succ n ih =>
    intro v3 v5 v6
    rw [fT_mixedInto_l17]
    refine xR_il 17 3 dT_mixedInto_17 rfl ?_
    refine xR_aln 19 0 dT_mixedInto_19 rfl rfl ?_
    refine xR_getf 20 xcf3 1 (36 + t) (by decide) (xk_T ht) (xC_tab ht) (v := .int (xwid t)) rfl fl_RX4_21 dT_mixedInto_20 ?_
    refine xR_icge 23 48 dT_mixedInto_23 (by decide) ?_ ?_
    · refine xR_iinc 48 2 (v5 + 1) ([(5, .int (v5 + 1)), (0, .ref (xa G (36 + t))), (3, .long v3), (6, .int v6)]) dT_mixedInto_48 rfl rfl (by decide) rfl ?_
      refine xR_goto 51 5 dT_mixedInto_51 (by decide) ?_
      exact xR_sub [1, 2, 0] rfl (hk5 v3 (v5 + 1))
    · refine xR_ldc2 26 cl_RX4_40 dT_mixedInto_26 ?_
      refine xR_lln 29 1 dT_mixedInto_29 rfl rfl ?_
      refine xR_lmul 30 dT_mixedInto_30 ?_
      refine xR_aln 31 0 dT_mixedInto_31 rfl rfl ?_
      refine xR_il 32 2 dT_mixedInto_32 rfl ?_
      refine xR_il 34 3 dT_mixedInto_34 rfl ?_
      refine xR_callVi 36 cv_T_get ml_RX4_42 ⟨Nat.le_of_ble_eq_true rfl, Nat.le_of_ble_eq_true rfl⟩ xcf3 rfl (36 + t) (xk_T ht) (xC_tab ht) [.int v5, .int v6] rfl rfl (Nat.le_of_ble_eq_true rfl) dT_mixedInto_36 (kT_get G t ht z m v5 v6) (fun r36 => ?_)
      refine xR_i2l 39 dT_mixedInto_39 ?_
      refine xR_ladd 40 dT_mixedInto_40 ?_
      refine xR_lsn 41 ([(3, .long (((31 : Int64) * v3) + ((r36).toInt64))), (0, .ref (xa G (36 + t))), (5, .int v5), (6, .int v6)]) dT_mixedInto_41 rfl (by decide) rfl ?_
      refine xR_iinc 42 3 (v6 + 1) ([(6, .int (v6 + 1)), (3, .long (((31 : Int64) * v3) + ((r36).toInt64))), (0, .ref (xa G (36 + t))), (5, .int v5)]) dT_mixedInto_42 rfl rfl (by decide) rfl ?_
      refine xR_goto 45 17 dT_mixedInto_45 (by decide) ?_
      exact xR_sub [2, 1, 3, 0] rfl (ih (((31 : Int64) * v3) + ((r36).toInt64)) v5 (v6 + 1))
set_option maxRecDepth 100000 in
set_option maxHeartbeats 4000000 in
theorem kT_mixedInto_l5 (G : xG) (t : Nat) (ht : t < 36) (z : xM) (m : xM)   : ∀ (n : Nat) (v3 : Int64) (v5 : Int32), xR G yyT_mixedInto (eml (m, z)) 5 [(0, .ref (xa G (36 + t))), (3, .long v3), (5, .int v5)] [] (m, z) (fT_mixedInto_l5 t m n v3 v5) := by
  intro n
  induction n with
  | zero =>
    intro v3 v5
    rw [fT_mixedInto_l5]
    exact xR_none
  | succ n ih =>
    intro v3 v5
    rw [fT_mixedInto_l5]
    refine xR_il 5 2 dT_mixedInto_5 rfl ?_
    refine xR_aln 7 0 dT_mixedInto_7 rfl rfl ?_
    refine xR_getf 8 xcf3 3 (36 + t) (by decide) (xk_T ht) (xC_tab ht) (v := .int (m.1 36 t)) rfl fl_RX4_28 dT_mixedInto_8 ?_
    refine xR_icge 11 54 dT_mixedInto_11 (by decide) ?_ ?_
    · refine xR_lln 54 1 dT_mixedInto_54 rfl rfl ?_
      exact xR_lret 55 rfl rfl dT_mixedInto_55
    · refine xR_ic 14 (0 : Int32) dT_mixedInto_14 (by decide) ?_
      refine xR_is 15 ([(6, .int (0 : Int32)), (0, .ref (xa G (36 + t))), (3, .long v3), (5, .int v5)]) dT_mixedInto_15 (by decide) rfl ?_
      exact xR_sub [1, 2, 3, 0] rfl (kT_mixedInto_l17 G t ht z m (fT_mixedInto_l5 t m n) ih xfu v3 v5 (0 : Int32))
set_option maxRecDepth 100000 in
set_option maxHeartbeats 4000000 in
theorem kT_mixedInto (G : xG) (t : Nat) (ht : t < 36) (z : xM) (m : xM) (v1 : Int64) : ∀ a, fT_mixedInto t m v1 = some a → xCt G yyT_mixedInto [.ref (xa G (36 + t)), .long v1] (m, z) (some (.long a)) (m, z) := by
  refine xR_ct (em := (eml (m, z))) rfl (Nat.le_of_ble_eq_true rfl) ?_
  show xR G yyT_mixedInto _ 0 [(0, .ref (xa G (36 + t))), (1, .long v1)] [] _ _
  unfold fT_mixedInto
  refine xR_lln 0 1 dT_mixedInto_0 rfl rfl ?_
  refine xR_lsn 1 ([(3, .long v1), (0, .ref (xa G (36 + t))), (1, .long v1)]) dT_mixedInto_1 rfl (by decide) rfl ?_
  refine xR_ic 2 (0 : Int32) dT_mixedInto_2 (by decide) ?_
  refine xR_is 3 ([(5, .int (0 : Int32)), (3, .long v1), (0, .ref (xa G (36 + t))), (1, .long v1)]) dT_mixedInto_3 (by decide) rfl ?_
  exact xR_sub [2, 1, 0] rfl (kT_mixedInto_l5 G t ht z m xfu v1 (0 : Int32))
theorem dM_in_0 : decode (xb yyM_in) 0 = .ok (.lload_n 0, 1) := by decide +kernel
theorem dM_in_1 : decode (xb yyM_in) 1 = .ok (.lload_n 2, 1) := by decide +kernel
theorem dM_in_2 : decode (xb yyM_in) 2 = .ok (.lcmp, 1) := by decide +kernel
theorem dM_in_3 : decode (xb yyM_in) 3 = .ok (.ifCond .lt 14, 3) := by decide +kernel
theorem dM_in_6 : decode (xb yyM_in) 6 = .ok (.lload_n 0, 1) := by decide +kernel
theorem dM_in_7 : decode (xb yyM_in) 7 = .ok (.lload 4, 2) := by decide +kernel
theorem dM_in_9 : decode (xb yyM_in) 9 = .ok (.lcmp, 1) := by decide +kernel
theorem dM_in_10 : decode (xb yyM_in) 10 = .ok (.ifCond .gt 7, 3) := by decide +kernel
theorem dM_in_13 : decode (xb yyM_in) 13 = .ok (.iconst 1, 1) := by decide +kernel
theorem dM_in_14 : decode (xb yyM_in) 14 = .ok (.goto 4, 3) := by decide +kernel
theorem dM_in_17 : decode (xb yyM_in) 17 = .ok (.iconst 0, 1) := by decide +kernel
theorem dM_in_18 : decode (xb yyM_in) 18 = .ok (.ireturn, 1) := by decide +kernel
def fM_in  (v0 : Int64) (v2 : Int64) (v4 : Int64) : Option (Int32) := (if (lg_cmp v0 v2) < 0 then some (xnb (0 : Int32)) else (if 0 < (lg_cmp v0 v4) then some (xnb (0 : Int32)) else some (xnb (1 : Int32))))
set_option maxRecDepth 100000 in
set_option maxHeartbeats 4000000 in
theorem kM_in (G : xG)   (S : xS)  (v0 : Int64) (v2 : Int64) (v4 : Int64) : ∀ a, fM_in  v0 v2 v4 = some a → xCt G yyM_in [.long v0, .long v2, .long v4] S (some (.int a)) S := by
  refine xR_ct (em := (emi S)) rfl (Nat.le_of_ble_eq_true rfl) ?_
  show xR G yyM_in _ 0 [(0, .long v0), (2, .long v2), (4, .long v4)] [] _ _
  unfold fM_in
  refine xR_lln 0 0 dM_in_0 rfl rfl ?_
  refine xR_lln 1 1 dM_in_1 rfl rfl ?_
  refine xR_lcmp 2 dM_in_2 ?_
  refine xR_iflt 3 17 dM_in_3 (by decide) ?_ ?_
  · refine xR_ic 17 (0 : Int32) dM_in_17 (by decide) ?_
    exact xR_zret 18 rfl rfl dM_in_18
  · refine xR_lln 6 0 dM_in_6 rfl rfl ?_
    refine xR_ll 7 2 dM_in_7 rfl ?_
    refine xR_lcmp 9 dM_in_9 ?_
    refine xR_ifgt 10 17 dM_in_10 (by decide) ?_ ?_
    · refine xR_ic 17 (0 : Int32) dM_in_17 (by decide) ?_
      exact xR_zret 18 rfl rfl dM_in_18
    · refine xR_ic 13 (1 : Int32) dM_in_13 (by decide) ?_
      refine xR_goto 14 18 dM_in_14 (by decide) ?_
      exact xR_zret 18 rfl rfl dM_in_18
theorem dM_has_0 : decode (xb yyM_has) 0 = .ok (.iload_n 0, 1) := by decide +kernel
theorem dM_has_1 : decode (xb yyM_has) 1 = .ok (.iload_n 1, 1) := by decide +kernel
theorem dM_has_2 : decode (xb yyM_has) 2 = .ok (.ishr, 1) := by decide +kernel
theorem dM_has_3 : decode (xb yyM_has) 3 = .ok (.iconst 1, 1) := by decide +kernel
theorem dM_has_4 : decode (xb yyM_has) 4 = .ok (.iand, 1) := by decide +kernel
theorem dM_has_5 : decode (xb yyM_has) 5 = .ok (.iconst 1, 1) := by decide +kernel
theorem dM_has_6 : decode (xb yyM_has) 6 = .ok (.if_icmp .ne 7, 3) := by decide +kernel
theorem dM_has_9 : decode (xb yyM_has) 9 = .ok (.iconst 1, 1) := by decide +kernel
theorem dM_has_10 : decode (xb yyM_has) 10 = .ok (.goto 4, 3) := by decide +kernel
theorem dM_has_13 : decode (xb yyM_has) 13 = .ok (.iconst 0, 1) := by decide +kernel
theorem dM_has_14 : decode (xb yyM_has) 14 = .ok (.ireturn, 1) := by decide +kernel
def fM_has  (v0 : Int32) (v1 : Int32) : Option (Int32) := (if ((v0 >>> (v1 &&& 31)) &&& (1 : Int32)) = (1 : Int32) then some (xnb (1 : Int32)) else some (xnb (0 : Int32)))
set_option maxRecDepth 100000 in
set_option maxHeartbeats 4000000 in
theorem kM_has (G : xG)   (S : xS)  (v0 : Int32) (v1 : Int32) : ∀ a, fM_has  v0 v1 = some a → xCt G yyM_has [.int v0, .int v1] S (some (.int a)) S := by
  refine xR_ct (em := (emi S)) rfl (Nat.le_of_ble_eq_true rfl) ?_
  show xR G yyM_has _ 0 [(0, .int v0), (1, .int v1)] [] _ _
  unfold fM_has
  refine xR_iln 0 0 dM_has_0 rfl rfl ?_
  refine xR_iln 1 1 dM_has_1 rfl rfl ?_
  refine xR_ishr 2 dM_has_2 ?_
  refine xR_ic 3 (1 : Int32) dM_has_3 (by decide) ?_
  refine xR_iand 4 dM_has_4 ?_
  refine xR_ic 5 (1 : Int32) dM_has_5 (by decide) ?_
  refine xR_icne 6 13 dM_has_6 (by decide) ?_ ?_
  · refine xR_ic 13 (0 : Int32) dM_has_13 (by decide) ?_
    exact xR_zret 14 rfl rfl dM_has_14
  · refine xR_ic 9 (1 : Int32) dM_has_9 (by decide) ?_
    refine xR_goto 10 14 dM_has_10 (by decide) ?_
    exact xR_zret 14 rfl rfl dM_has_14
theorem dM_ones_0 : decode (xb yyM_ones) 0 = .ok (.iconst 0, 1) := by decide +kernel
theorem dM_ones_1 : decode (xb yyM_ones) 1 = .ok (.istore_n 1, 1) := by decide +kernel
theorem dM_ones_2 : decode (xb yyM_ones) 2 = .ok (.iconst 0, 1) := by decide +kernel
theorem dM_ones_3 : decode (xb yyM_ones) 3 = .ok (.istore_n 2, 1) := by decide +kernel
theorem dM_ones_4 : decode (xb yyM_ones) 4 = .ok (.iload_n 2, 1) := by decide +kernel
theorem dM_ones_5 : decode (xb yyM_ones) 5 = .ok (.bipush 6, 2) := by decide +kernel
theorem dM_ones_7 : decode (xb yyM_ones) 7 = .ok (.if_icmp .ge 17, 3) := by decide +kernel
theorem dM_ones_10 : decode (xb yyM_ones) 10 = .ok (.iload_n 1, 1) := by decide +kernel
theorem dM_ones_11 : decode (xb yyM_ones) 11 = .ok (.iload_n 0, 1) := by decide +kernel
theorem dM_ones_12 : decode (xb yyM_ones) 12 = .ok (.iload_n 2, 1) := by decide +kernel
theorem dM_ones_13 : decode (xb yyM_ones) 13 = .ok (.ishr, 1) := by decide +kernel
theorem dM_ones_14 : decode (xb yyM_ones) 14 = .ok (.iconst 1, 1) := by decide +kernel
theorem dM_ones_15 : decode (xb yyM_ones) 15 = .ok (.iand, 1) := by decide +kernel
theorem dM_ones_16 : decode (xb yyM_ones) 16 = .ok (.iadd, 1) := by decide +kernel
theorem dM_ones_17 : decode (xb yyM_ones) 17 = .ok (.istore_n 1, 1) := by decide +kernel
theorem dM_ones_18 : decode (xb yyM_ones) 18 = .ok (.iinc 2 1, 3) := by decide +kernel
theorem dM_ones_21 : decode (xb yyM_ones) 21 = .ok (.goto (-17), 3) := by decide +kernel
theorem dM_ones_24 : decode (xb yyM_ones) 24 = .ok (.iload_n 1, 1) := by decide +kernel
theorem dM_ones_25 : decode (xb yyM_ones) 25 = .ok (.ireturn, 1) := by decide +kernel
def fM_ones_l4  : Nat → Int32 → Int32 → Int32 → Option (Int32)
  | 0, _, _, _ => none
  | n + 1, v0, v1, v2 => (if (6 : Int32) ≤ v2 then some v1 else fM_ones_l4 n v0 (v1 + ((v0 >>> (v2 &&& 31)) &&& (1 : Int32))) (v2 + 1))
def fM_ones  (v0 : Int32) : Option (Int32) := fM_ones_l4 xfu v0 (0 : Int32) (0 : Int32)
set_option maxRecDepth 100000 in
set_option maxHeartbeats 4000000 in
theorem kM_ones_l4 (G : xG)   (S : xS)    : ∀ (n : Nat) (v0 : Int32) (v1 : Int32) (v2 : Int32), xR G yyM_ones (emi S) 4 [(0, .int v0), (1, .int v1), (2, .int v2)] [] S (fM_ones_l4  n v0 v1 v2) := by
  intro n
  induction n with
  | zero =>
    intro v0 v1 v2
    rw [fM_ones_l4]
    exact xR_none
  | succ n ih =>
    intro v0 v1 v2
    rw [fM_ones_l4]
    refine xR_iln 4 2 dM_ones_4 rfl rfl ?_
    refine xR_bp 5 (6 : Int32) dM_ones_5 (by decide) ?_
    refine xR_icge 7 24 dM_ones_7 (by decide) ?_ ?_
    · refine xR_iln 24 1 dM_ones_24 rfl rfl ?_
      exact xR_iret 25 rfl rfl dM_ones_25
    · refine xR_iln 10 1 dM_ones_10 rfl rfl ?_
      refine xR_iln 11 0 dM_ones_11 rfl rfl ?_
      refine xR_iln 12 2 dM_ones_12 rfl rfl ?_
      refine xR_ishr 13 dM_ones_13 ?_
      refine xR_ic 14 (1 : Int32) dM_ones_14 (by decide) ?_
      refine xR_iand 15 dM_ones_15 ?_
      refine xR_iadd 16 dM_ones_16 ?_
      refine xR_isn 17 ([(1, .int (v1 + ((v0 >>> (v2 &&& 31)) &&& (1 : Int32)))), (0, .int v0), (2, .int v2)]) dM_ones_17 rfl (by decide) rfl ?_
      refine xR_iinc 18 2 (v2 + 1) ([(2, .int (v2 + 1)), (1, .int (v1 + ((v0 >>> (v2 &&& 31)) &&& (1 : Int32)))), (0, .int v0)]) dM_ones_18 rfl rfl (by decide) rfl ?_
      refine xR_goto 21 4 dM_ones_21 (by decide) ?_
      exact xR_sub [2, 1, 0] rfl (ih v0 (v1 + ((v0 >>> (v2 &&& 31)) &&& (1 : Int32))) (v2 + 1))
set_option maxRecDepth 100000 in
set_option maxHeartbeats 4000000 in
theorem kM_ones (G : xG)   (S : xS)  (v0 : Int32) : ∀ a, fM_ones  v0 = some a → xCt G yyM_ones [.int v0] S (some (.int a)) S := by
  refine xR_ct (em := (emi S)) rfl (Nat.le_of_ble_eq_true rfl) ?_
  show xR G yyM_ones _ 0 [(0, .int v0)] [] _ _
  unfold fM_ones
  refine xR_ic 0 (0 : Int32) dM_ones_0 (by decide) ?_
  refine xR_isn 1 ([(1, .int (0 : Int32)), (0, .int v0)]) dM_ones_1 rfl (by decide) rfl ?_
  refine xR_ic 2 (0 : Int32) dM_ones_2 (by decide) ?_
  refine xR_isn 3 ([(2, .int (0 : Int32)), (1, .int (0 : Int32)), (0, .int v0)]) dM_ones_3 rfl (by decide) rfl ?_
  exact xR_sub [2, 1, 0] rfl (kM_ones_l4 G S xfu v0 (0 : Int32) (0 : Int32))
theorem dM_isString_0 : decode (xb yyM_isString) 0 = .ok (.iload_n 0, 1) := by decide +kernel
theorem dM_isString_1 : decode (xb yyM_isString) 1 = .ok (.i2l, 1) := by decide +kernel
theorem dM_isString_2 : decode (xb yyM_isString) 2 = .ok (.lconst 0, 1) := by decide +kernel
theorem dM_isString_3 : decode (xb yyM_isString) 3 = .ok (.ldc2_w 44, 3) := by decide +kernel
theorem dM_isString_6 : decode (xb yyM_isString) 6 = .ok (.invokestatic 40, 3) := by decide +kernel
theorem dM_isString_9 : decode (xb yyM_isString) 9 = .ok (.ireturn, 1) := by decide +kernel
def fM_isString  (v0 : Int32) : Option (Int32) := (fM_in ((v0).toInt64) (0 : Int64) (3 : Int64)).bind fun r6 => some (xnb r6)
set_option maxRecDepth 100000 in
set_option maxHeartbeats 4000000 in
theorem kM_isString (G : xG)   (S : xS)  (v0 : Int32) : ∀ a, fM_isString  v0 = some a → xCt G yyM_isString [.int v0] S (some (.int a)) S := by
  refine xR_ct (em := (emi S)) rfl (Nat.le_of_ble_eq_true rfl) ?_
  show xR G yyM_isString _ 0 [(0, .int v0)] [] _ _
  unfold fM_isString
  refine xR_iln 0 0 dM_isString_0 rfl rfl ?_
  refine xR_i2l 1 dM_isString_1 ?_
  refine xR_lc 2 (0 : Int64) dM_isString_2 (by decide) ?_
  refine xR_ldc2 3 cl_RX9_44 dM_isString_3 ?_
  refine xR_callSi 6 cs_M_in ml_RX9_40 ⟨Nat.le_of_ble_eq_true rfl, Nat.le_of_ble_eq_true rfl⟩ [.long ((v0).toInt64), .long (0 : Int64), .long (3 : Int64)] rfl rfl (Nat.le_of_ble_eq_true rfl) dM_isString_6 (kM_in G S ((v0).toInt64) (0 : Int64) (3 : Int64)) (fun r6 => ?_)
  exact xR_zret 9 rfl rfl dM_isString_9
theorem dM_door_0 : decode (xb yyM_door) 0 = .ok (.iload_n 0, 1) := by decide +kernel
theorem dM_door_1 : decode (xb yyM_door) 1 = .ok (.iconst 4, 1) := by decide +kernel
theorem dM_door_2 : decode (xb yyM_door) 2 = .ok (.idiv, 1) := by decide +kernel
theorem dM_door_3 : decode (xb yyM_door) 3 = .ok (.bipush 6, 2) := by decide +kernel
theorem dM_door_5 : decode (xb yyM_door) 5 = .ok (.iadd, 1) := by decide +kernel
theorem dM_door_6 : decode (xb yyM_door) 6 = .ok (.iload_n 1, 1) := by decide +kernel
theorem dM_door_7 : decode (xb yyM_door) 7 = .ok (.isub, 1) := by decide +kernel
theorem dM_door_8 : decode (xb yyM_door) 8 = .ok (.istore_n 2, 1) := by decide +kernel
theorem dM_door_9 : decode (xb yyM_door) 9 = .ok (.iload_n 2, 1) := by decide +kernel
theorem dM_door_10 : decode (xb yyM_door) 10 = .ok (.ifCond .ge 7, 3) := by decide +kernel
theorem dM_door_13 : decode (xb yyM_door) 13 = .ok (.iconst 0, 1) := by decide +kernel
theorem dM_door_14 : decode (xb yyM_door) 14 = .ok (.goto 4, 3) := by decide +kernel
theorem dM_door_17 : decode (xb yyM_door) 17 = .ok (.iload_n 2, 1) := by decide +kernel
theorem dM_door_18 : decode (xb yyM_door) 18 = .ok (.ireturn, 1) := by decide +kernel
def fM_door  (v0 : Int32) (v1 : Int32) : Option (Int32) := (if 0 ≤ (((v0 / (4 : Int32)) + (6 : Int32)) - v1) then some (((v0 / (4 : Int32)) + (6 : Int32)) - v1) else some (0 : Int32))
set_option maxRecDepth 100000 in
set_option maxHeartbeats 4000000 in
theorem kM_door (G : xG)   (S : xS)  (v0 : Int32) (v1 : Int32) : ∀ a, fM_door  v0 v1 = some a → xCt G yyM_door [.int v0, .int v1] S (some (.int a)) S := by
  refine xR_ct (em := (emi S)) rfl (Nat.le_of_ble_eq_true rfl) ?_
  show xR G yyM_door _ 0 [(0, .int v0), (1, .int v1)] [] _ _
  unfold fM_door
  refine xR_iln 0 0 dM_door_0 rfl rfl ?_
  refine xR_ic 1 (4 : Int32) dM_door_1 (by decide) ?_
  refine xR_idiv 2 dM_door_2 (by decide) ?_
  refine xR_bp 3 (6 : Int32) dM_door_3 (by decide) ?_
  refine xR_iadd 5 dM_door_5 ?_
  refine xR_iln 6 1 dM_door_6 rfl rfl ?_
  refine xR_isub 7 dM_door_7 ?_
  refine xR_isn 8 ([(2, .int (((v0 / (4 : Int32)) + (6 : Int32)) - v1)), (0, .int v0), (1, .int v1)]) dM_door_8 rfl (by decide) rfl ?_
  refine xR_iln 9 0 dM_door_9 rfl rfl ?_
  refine xR_ifge 10 17 dM_door_10 (by decide) ?_ ?_
  · refine xR_iln 17 0 dM_door_17 rfl rfl ?_
    exact xR_iret 18 rfl rfl dM_door_18
  · refine xR_ic 13 (0 : Int32) dM_door_13 (by decide) ?_
    refine xR_goto 14 18 dM_door_14 (by decide) ?_
    exact xR_iret 18 rfl rfl dM_door_18
theorem dM_stair_0 : decode (xb yyM_stair) 0 = .ok (.iload_n 0, 1) := by decide +kernel
theorem dM_stair_1 : decode (xb yyM_stair) 1 = .ok (.iconst 2, 1) := by decide +kernel
theorem dM_stair_2 : decode (xb yyM_stair) 2 = .ok (.if_icmp .ne 13, 3) := by decide +kernel
theorem dM_stair_5 : decode (xb yyM_stair) 5 = .ok (.iload_n 1, 1) := by decide +kernel
theorem dM_stair_6 : decode (xb yyM_stair) 6 = .ok (.iload_n 2, 1) := by decide +kernel
theorem dM_stair_7 : decode (xb yyM_stair) 7 = .ok (.invokestatic 46, 3) := by decide +kernel
theorem dM_stair_10 : decode (xb yyM_stair) 10 = .ok (.iconst 3, 1) := by decide +kernel
theorem dM_stair_11 : decode (xb yyM_stair) 11 = .ok (.iadd, 1) := by decide +kernel
theorem dM_stair_12 : decode (xb yyM_stair) 12 = .ok (.goto 8, 3) := by decide +kernel
theorem dM_stair_15 : decode (xb yyM_stair) 15 = .ok (.iload_n 1, 1) := by decide +kernel
theorem dM_stair_16 : decode (xb yyM_stair) 16 = .ok (.iload_n 2, 1) := by decide +kernel
theorem dM_stair_17 : decode (xb yyM_stair) 17 = .ok (.invokestatic 46, 3) := by decide +kernel
theorem dM_stair_20 : decode (xb yyM_stair) 20 = .ok (.ireturn, 1) := by decide +kernel
def fM_stair  (v0 : Int32) (v1 : Int32) (v2 : Int32) : Option (Int32) := (if v0 = (2 : Int32) then (fM_door v1 v2).bind fun r7 => some (r7 + (3 : Int32)) else (fM_door v1 v2).bind fun r17 => some r17)
set_option maxRecDepth 100000 in
set_option maxHeartbeats 4000000 in
theorem kM_stair (G : xG)   (S : xS)  (v0 : Int32) (v1 : Int32) (v2 : Int32) : ∀ a, fM_stair  v0 v1 v2 = some a → xCt G yyM_stair [.int v0, .int v1, .int v2] S (some (.int a)) S := by
  refine xR_ct (em := (emi S)) rfl (Nat.le_of_ble_eq_true rfl) ?_
  show xR G yyM_stair _ 0 [(0, .int v0), (1, .int v1), (2, .int v2)] [] _ _
  unfold fM_stair
  refine xR_iln 0 0 dM_stair_0 rfl rfl ?_
  refine xR_ic 1 (2 : Int32) dM_stair_1 (by decide) ?_
  refine xR_icne 2 15 dM_stair_2 (by decide) ?_ ?_
  · refine xR_iln 15 1 dM_stair_15 rfl rfl ?_
    refine xR_iln 16 2 dM_stair_16 rfl rfl ?_
    refine xR_callSi 17 cs_M_door ml_RX9_46 ⟨Nat.le_of_ble_eq_true rfl, Nat.le_of_ble_eq_true rfl⟩ [.int v1, .int v2] rfl rfl (Nat.le_of_ble_eq_true rfl) dM_stair_17 (kM_door G S v1 v2) (fun r17 => ?_)
    exact xR_iret 20 rfl rfl dM_stair_20
  · refine xR_iln 5 1 dM_stair_5 rfl rfl ?_
    refine xR_iln 6 2 dM_stair_6 rfl rfl ?_
    refine xR_callSi 7 cs_M_door ml_RX9_46 ⟨Nat.le_of_ble_eq_true rfl, Nat.le_of_ble_eq_true rfl⟩ [.int v1, .int v2] rfl rfl (Nat.le_of_ble_eq_true rfl) dM_stair_7 (kM_door G S v1 v2) (fun r7 => ?_)
    refine xR_ic 10 (3 : Int32) dM_stair_10 (by decide) ?_
    refine xR_iadd 11 dM_stair_11 ?_
    refine xR_goto 12 20 dM_stair_12 (by decide) ?_
    exact xR_iret 20 rfl rfl dM_stair_20
theorem dM_sill_0 : decode (xb yyM_sill) 0 = .ok (.iload_n 0, 1) := by decide +kernel
theorem dM_sill_1 : decode (xb yyM_sill) 1 = .ok (.iconst 3, 1) := by decide +kernel
theorem dM_sill_2 : decode (xb yyM_sill) 2 = .ok (.if_icmp .ne 13, 3) := by decide +kernel
theorem dM_sill_5 : decode (xb yyM_sill) 5 = .ok (.iconst 2, 1) := by decide +kernel
theorem dM_sill_6 : decode (xb yyM_sill) 6 = .ok (.iload_n 1, 1) := by decide +kernel
theorem dM_sill_7 : decode (xb yyM_sill) 7 = .ok (.iload_n 2, 1) := by decide +kernel
theorem dM_sill_8 : decode (xb yyM_sill) 8 = .ok (.invokestatic 46, 3) := by decide +kernel
theorem dM_sill_11 : decode (xb yyM_sill) 11 = .ok (.imul, 1) := by decide +kernel
theorem dM_sill_12 : decode (xb yyM_sill) 12 = .ok (.goto 8, 3) := by decide +kernel
theorem dM_sill_15 : decode (xb yyM_sill) 15 = .ok (.iload_n 1, 1) := by decide +kernel
theorem dM_sill_16 : decode (xb yyM_sill) 16 = .ok (.iload_n 2, 1) := by decide +kernel
theorem dM_sill_17 : decode (xb yyM_sill) 17 = .ok (.invokestatic 46, 3) := by decide +kernel
theorem dM_sill_20 : decode (xb yyM_sill) 20 = .ok (.ireturn, 1) := by decide +kernel
def fM_sill  (v0 : Int32) (v1 : Int32) (v2 : Int32) : Option (Int32) := (if v0 = (3 : Int32) then (fM_door v1 v2).bind fun r8 => some ((2 : Int32) * r8) else (fM_door v1 v2).bind fun r17 => some r17)
set_option maxRecDepth 100000 in
set_option maxHeartbeats 4000000 in
theorem kM_sill (G : xG)   (S : xS)  (v0 : Int32) (v1 : Int32) (v2 : Int32) : ∀ a, fM_sill  v0 v1 v2 = some a → xCt G yyM_sill [.int v0, .int v1, .int v2] S (some (.int a)) S := by
  refine xR_ct (em := (emi S)) rfl (Nat.le_of_ble_eq_true rfl) ?_
  show xR G yyM_sill _ 0 [(0, .int v0), (1, .int v1), (2, .int v2)] [] _ _
  unfold fM_sill
  refine xR_iln 0 0 dM_sill_0 rfl rfl ?_
  refine xR_ic 1 (3 : Int32) dM_sill_1 (by decide) ?_
  refine xR_icne 2 15 dM_sill_2 (by decide) ?_ ?_
  · refine xR_iln 15 1 dM_sill_15 rfl rfl ?_
    refine xR_iln 16 2 dM_sill_16 rfl rfl ?_
    refine xR_callSi 17 cs_M_door ml_RX9_46 ⟨Nat.le_of_ble_eq_true rfl, Nat.le_of_ble_eq_true rfl⟩ [.int v1, .int v2] rfl rfl (Nat.le_of_ble_eq_true rfl) dM_sill_17 (kM_door G S v1 v2) (fun r17 => ?_)
    exact xR_iret 20 rfl rfl dM_sill_20
  · refine xR_ic 5 (2 : Int32) dM_sill_5 (by decide) ?_
    refine xR_iln 6 1 dM_sill_6 rfl rfl ?_
    refine xR_iln 7 2 dM_sill_7 rfl rfl ?_
    refine xR_callSi 8 cs_M_door ml_RX9_46 ⟨Nat.le_of_ble_eq_true rfl, Nat.le_of_ble_eq_true rfl⟩ [.int v1, .int v2] rfl rfl (Nat.le_of_ble_eq_true rfl) dM_sill_8 (kM_door G S v1 v2) (fun r8 => ?_)
    refine xR_imul 11 dM_sill_11 ?_
    refine xR_goto 12 20 dM_sill_12 (by decide) ?_
    exact xR_iret 20 rfl rfl dM_sill_20
theorem dM_soundOf_0 : decode (xb yyM_soundOf) 0 = .ok (.iload_n 0, 1) := by decide +kernel
theorem dM_soundOf_1 : decode (xb yyM_soundOf) 1 = .ok (.tableswitch 101 1 5 #[35, 42, 49, 70, 92], 35) := by decide +kernel
theorem dM_soundOf_36 : decode (xb yyM_soundOf) 36 = .ok (.iload_n 1, 1) := by decide +kernel
theorem dM_soundOf_37 : decode (xb yyM_soundOf) 37 = .ok (.iload_n 2, 1) := by decide +kernel
theorem dM_soundOf_38 : decode (xb yyM_soundOf) 38 = .ok (.iload_n 3, 1) := by decide +kernel
theorem dM_soundOf_39 : decode (xb yyM_soundOf) 39 = .ok (.invokestatic 50, 3) := by decide +kernel
theorem dM_soundOf_42 : decode (xb yyM_soundOf) 42 = .ok (.ireturn, 1) := by decide +kernel
theorem dM_soundOf_43 : decode (xb yyM_soundOf) 43 = .ok (.iload_n 1, 1) := by decide +kernel
theorem dM_soundOf_44 : decode (xb yyM_soundOf) 44 = .ok (.iload_n 2, 1) := by decide +kernel
theorem dM_soundOf_45 : decode (xb yyM_soundOf) 45 = .ok (.iload_n 3, 1) := by decide +kernel
theorem dM_soundOf_46 : decode (xb yyM_soundOf) 46 = .ok (.invokestatic 54, 3) := by decide +kernel
theorem dM_soundOf_49 : decode (xb yyM_soundOf) 49 = .ok (.ireturn, 1) := by decide +kernel
theorem dM_soundOf_50 : decode (xb yyM_soundOf) 50 = .ok (.iload_n 1, 1) := by decide +kernel
theorem dM_soundOf_51 : decode (xb yyM_soundOf) 51 = .ok (.iconst 2, 1) := by decide +kernel
theorem dM_soundOf_52 : decode (xb yyM_soundOf) 52 = .ok (.if_icmp .ge 11, 3) := by decide +kernel
theorem dM_soundOf_55 : decode (xb yyM_soundOf) 55 = .ok (.iload_n 2, 1) := by decide +kernel
theorem dM_soundOf_56 : decode (xb yyM_soundOf) 56 = .ok (.iload_n 3, 1) := by decide +kernel
theorem dM_soundOf_57 : decode (xb yyM_soundOf) 57 = .ok (.invokestatic 46, 3) := by decide +kernel
theorem dM_soundOf_60 : decode (xb yyM_soundOf) 60 = .ok (.goto 10, 3) := by decide +kernel
theorem dM_soundOf_63 : decode (xb yyM_soundOf) 63 = .ok (.iload_n 2, 1) := by decide +kernel
theorem dM_soundOf_64 : decode (xb yyM_soundOf) 64 = .ok (.iload_n 3, 1) := by decide +kernel
theorem dM_soundOf_65 : decode (xb yyM_soundOf) 65 = .ok (.invokestatic 46, 3) := by decide +kernel
theorem dM_soundOf_68 : decode (xb yyM_soundOf) 68 = .ok (.iconst 5, 1) := by decide +kernel
theorem dM_soundOf_69 : decode (xb yyM_soundOf) 69 = .ok (.iadd, 1) := by decide +kernel
theorem dM_soundOf_70 : decode (xb yyM_soundOf) 70 = .ok (.ireturn, 1) := by decide +kernel
theorem dM_soundOf_71 : decode (xb yyM_soundOf) 71 = .ok (.iload_n 1, 1) := by decide +kernel
theorem dM_soundOf_72 : decode (xb yyM_soundOf) 72 = .ok (.ifCond .ne 14, 3) := by decide +kernel
theorem dM_soundOf_75 : decode (xb yyM_soundOf) 75 = .ok (.iload_n 1, 1) := by decide +kernel
theorem dM_soundOf_76 : decode (xb yyM_soundOf) 76 = .ok (.iload_n 2, 1) := by decide +kernel
theorem dM_soundOf_77 : decode (xb yyM_soundOf) 77 = .ok (.iconst 0, 1) := by decide +kernel
theorem dM_soundOf_78 : decode (xb yyM_soundOf) 78 = .ok (.invokestatic 50, 3) := by decide +kernel
theorem dM_soundOf_81 : decode (xb yyM_soundOf) 81 = .ok (.iconst 4, 1) := by decide +kernel
theorem dM_soundOf_82 : decode (xb yyM_soundOf) 82 = .ok (.iadd, 1) := by decide +kernel
theorem dM_soundOf_83 : decode (xb yyM_soundOf) 83 = .ok (.goto 9, 3) := by decide +kernel
theorem dM_soundOf_86 : decode (xb yyM_soundOf) 86 = .ok (.iload_n 1, 1) := by decide +kernel
theorem dM_soundOf_87 : decode (xb yyM_soundOf) 87 = .ok (.iload_n 2, 1) := by decide +kernel
theorem dM_soundOf_88 : decode (xb yyM_soundOf) 88 = .ok (.iconst 0, 1) := by decide +kernel
theorem dM_soundOf_89 : decode (xb yyM_soundOf) 89 = .ok (.invokestatic 50, 3) := by decide +kernel
theorem dM_soundOf_92 : decode (xb yyM_soundOf) 92 = .ok (.ireturn, 1) := by decide +kernel
theorem dM_soundOf_93 : decode (xb yyM_soundOf) 93 = .ok (.iload_n 1, 1) := by decide +kernel
theorem dM_soundOf_94 : decode (xb yyM_soundOf) 94 = .ok (.iload_n 2, 1) := by decide +kernel
theorem dM_soundOf_95 : decode (xb yyM_soundOf) 95 = .ok (.iload_n 3, 1) := by decide +kernel
theorem dM_soundOf_96 : decode (xb yyM_soundOf) 96 = .ok (.invokestatic 54, 3) := by decide +kernel
theorem dM_soundOf_99 : decode (xb yyM_soundOf) 99 = .ok (.iconst 3, 1) := by decide +kernel
theorem dM_soundOf_100 : decode (xb yyM_soundOf) 100 = .ok (.idiv, 1) := by decide +kernel
theorem dM_soundOf_101 : decode (xb yyM_soundOf) 101 = .ok (.ireturn, 1) := by decide +kernel
theorem dM_soundOf_102 : decode (xb yyM_soundOf) 102 = .ok (.iload_n 2, 1) := by decide +kernel
theorem dM_soundOf_103 : decode (xb yyM_soundOf) 103 = .ok (.iload_n 3, 1) := by decide +kernel
theorem dM_soundOf_104 : decode (xb yyM_soundOf) 104 = .ok (.invokestatic 46, 3) := by decide +kernel
theorem dM_soundOf_107 : decode (xb yyM_soundOf) 107 = .ok (.ireturn, 1) := by decide +kernel
def fM_soundOf  (v0 : Int32) (v1 : Int32) (v2 : Int32) (v3 : Int32) : Option (Int32) := (if v0 = (1 : Int32) then (fM_stair v1 v2 v3).bind fun r39 => some r39 else (if v0 = (2 : Int32) then (fM_sill v1 v2 v3).bind fun r46 => some r46 else (if v0 = (3 : Int32) then (if (2 : Int32) ≤ v1 then (fM_door v2 v3).bind fun r65 => some (r65 + (5 : Int32)) else (fM_door v2 v3).bind fun r57 => some r57) else (if v0 = (4 : Int32) then (if v1 = 0 then (fM_stair v1 v2 (0 : Int32)).bind fun r78 => some (r78 + (4 : Int32)) else (fM_stair v1 v2 (0 : Int32)).bind fun r89 => some r89) else (if v0 = (5 : Int32) then (fM_sill v1 v2 v3).bind fun r96 => some (r96 / (3 : Int32)) else (fM_door v2 v3).bind fun r104 => some r104)))))
set_option maxRecDepth 100000 in
set_option maxHeartbeats 4000000 in
theorem kM_soundOf (G : xG)   (S : xS)  (v0 : Int32) (v1 : Int32) (v2 : Int32) (v3 : Int32) : ∀ a, fM_soundOf  v0 v1 v2 v3 = some a → xCt G yyM_soundOf [.int v0, .int v1, .int v2, .int v3] S (some (.int a)) S := by
  refine xR_ct (em := (emi S)) rfl (Nat.le_of_ble_eq_true rfl) ?_
  show xR G yyM_soundOf _ 0 [(0, .int v0), (1, .int v1), (2, .int v2), (3, .int v3)] [] _ _
  unfold fM_soundOf
  refine xR_iln 0 0 dM_soundOf_0 rfl rfl ?_
  refine xR_tsw 1 36 (1 : Int32) dM_soundOf_1 (by decide) (by decide) rfl (by decide) ?_ (fun hs1_0 => ?_)
  · refine xR_iln 36 1 dM_soundOf_36 rfl rfl ?_
    refine xR_iln 37 2 dM_soundOf_37 rfl rfl ?_
    refine xR_iln 38 3 dM_soundOf_38 rfl rfl ?_
    refine xR_callSi 39 cs_M_stair ml_RX9_50 ⟨Nat.le_of_ble_eq_true rfl, Nat.le_of_ble_eq_true rfl⟩ [.int v1, .int v2, .int v3] rfl rfl (Nat.le_of_ble_eq_true rfl) dM_soundOf_39 (kM_stair G S v1 v2 v3) (fun r39 => ?_)
    exact xR_iret 42 rfl rfl dM_soundOf_42
  refine xR_tsw 1 43 (2 : Int32) dM_soundOf_1 (by decide) (by decide) rfl (by decide) ?_ (fun hs1_1 => ?_)
  · refine xR_iln 43 1 dM_soundOf_43 rfl rfl ?_
    refine xR_iln 44 2 dM_soundOf_44 rfl rfl ?_
    refine xR_iln 45 3 dM_soundOf_45 rfl rfl ?_
    refine xR_callSi 46 cs_M_sill ml_RX9_54 ⟨Nat.le_of_ble_eq_true rfl, Nat.le_of_ble_eq_true rfl⟩ [.int v1, .int v2, .int v3] rfl rfl (Nat.le_of_ble_eq_true rfl) dM_soundOf_46 (kM_sill G S v1 v2 v3) (fun r46 => ?_)
    exact xR_iret 49 rfl rfl dM_soundOf_49
  refine xR_tsw 1 50 (3 : Int32) dM_soundOf_1 (by decide) (by decide) rfl (by decide) ?_ (fun hs1_2 => ?_)
  · refine xR_iln 50 1 dM_soundOf_50 rfl rfl ?_
    refine xR_ic 51 (2 : Int32) dM_soundOf_51 (by decide) ?_
    refine xR_icge 52 63 dM_soundOf_52 (by decide) ?_ ?_
    · refine xR_iln 63 2 dM_soundOf_63 rfl rfl ?_
      refine xR_iln 64 3 dM_soundOf_64 rfl rfl ?_
      refine xR_callSi 65 cs_M_door ml_RX9_46 ⟨Nat.le_of_ble_eq_true rfl, Nat.le_of_ble_eq_true rfl⟩ [.int v2, .int v3] rfl rfl (Nat.le_of_ble_eq_true rfl) dM_soundOf_65 (kM_door G S v2 v3) (fun r65 => ?_)
      refine xR_ic 68 (5 : Int32) dM_soundOf_68 (by decide) ?_
      refine xR_iadd 69 dM_soundOf_69 ?_
      exact xR_iret 70 rfl rfl dM_soundOf_70
    · refine xR_iln 55 2 dM_soundOf_55 rfl rfl ?_
      refine xR_iln 56 3 dM_soundOf_56 rfl rfl ?_
      refine xR_callSi 57 cs_M_door ml_RX9_46 ⟨Nat.le_of_ble_eq_true rfl, Nat.le_of_ble_eq_true rfl⟩ [.int v2, .int v3] rfl rfl (Nat.le_of_ble_eq_true rfl) dM_soundOf_57 (kM_door G S v2 v3) (fun r57 => ?_)
      refine xR_goto 60 70 dM_soundOf_60 (by decide) ?_
      exact xR_iret 70 rfl rfl dM_soundOf_70
  refine xR_tsw 1 71 (4 : Int32) dM_soundOf_1 (by decide) (by decide) rfl (by decide) ?_ (fun hs1_3 => ?_)
  · refine xR_iln 71 1 dM_soundOf_71 rfl rfl ?_
    refine xR_ifne 72 86 dM_soundOf_72 (by decide) ?_ ?_
    · refine xR_iln 86 1 dM_soundOf_86 rfl rfl ?_
      refine xR_iln 87 2 dM_soundOf_87 rfl rfl ?_
      refine xR_ic 88 (0 : Int32) dM_soundOf_88 (by decide) ?_
      refine xR_callSi 89 cs_M_stair ml_RX9_50 ⟨Nat.le_of_ble_eq_true rfl, Nat.le_of_ble_eq_true rfl⟩ [.int v1, .int v2, .int (0 : Int32)] rfl rfl (Nat.le_of_ble_eq_true rfl) dM_soundOf_89 (kM_stair G S v1 v2 (0 : Int32)) (fun r89 => ?_)
      exact xR_iret 92 rfl rfl dM_soundOf_92
    · refine xR_iln 75 1 dM_soundOf_75 rfl rfl ?_
      refine xR_iln 76 2 dM_soundOf_76 rfl rfl ?_
      refine xR_ic 77 (0 : Int32) dM_soundOf_77 (by decide) ?_
      refine xR_callSi 78 cs_M_stair ml_RX9_50 ⟨Nat.le_of_ble_eq_true rfl, Nat.le_of_ble_eq_true rfl⟩ [.int v1, .int v2, .int (0 : Int32)] rfl rfl (Nat.le_of_ble_eq_true rfl) dM_soundOf_78 (kM_stair G S v1 v2 (0 : Int32)) (fun r78 => ?_)
      refine xR_ic 81 (4 : Int32) dM_soundOf_81 (by decide) ?_
      refine xR_iadd 82 dM_soundOf_82 ?_
      refine xR_goto 83 92 dM_soundOf_83 (by decide) ?_
      exact xR_iret 92 rfl rfl dM_soundOf_92
  refine xR_tsw 1 93 (5 : Int32) dM_soundOf_1 (by decide) (by decide) rfl (by decide) ?_ (fun hs1_4 => ?_)
  · refine xR_iln 93 1 dM_soundOf_93 rfl rfl ?_
    refine xR_iln 94 2 dM_soundOf_94 rfl rfl ?_
    refine xR_iln 95 3 dM_soundOf_95 rfl rfl ?_
    refine xR_callSi 96 cs_M_sill ml_RX9_54 ⟨Nat.le_of_ble_eq_true rfl, Nat.le_of_ble_eq_true rfl⟩ [.int v1, .int v2, .int v3] rfl rfl (Nat.le_of_ble_eq_true rfl) dM_soundOf_96 (kM_sill G S v1 v2 v3) (fun r96 => ?_)
    refine xR_ic 99 (3 : Int32) dM_soundOf_99 (by decide) ?_
    refine xR_idiv 100 dM_soundOf_100 (by decide) ?_
    exact xR_iret 101 rfl rfl dM_soundOf_101
  refine xR_tso 1 102 dM_soundOf_1 (by have e0 := lv_neT hs1_0 (a := 1) rfl; have e1 := lv_neT hs1_1 (a := 2) rfl; have e2 := lv_neT hs1_2 (a := 3) rfl; have e3 := lv_neT hs1_3 (a := 4) rfl; have e4 := lv_neT hs1_4 (a := 5) rfl; omega) (by decide) ?_
  refine xR_iln 102 2 dM_soundOf_102 rfl rfl ?_
  refine xR_iln 103 3 dM_soundOf_103 rfl rfl ?_
  refine xR_callSi 104 cs_M_door ml_RX9_46 ⟨Nat.le_of_ble_eq_true rfl, Nat.le_of_ble_eq_true rfl⟩ [.int v2, .int v3] rfl rfl (Nat.le_of_ble_eq_true rfl) dM_soundOf_104 (kM_door G S v2 v3) (fun r104 => ?_)
  exact xR_iret 107 rfl rfl dM_soundOf_107
theorem dM_lent_0 : decode (xb yyM_lent) 0 = .ok (.iload_n 1, 1) := by decide +kernel
theorem dM_lent_1 : decode (xb yyM_lent) 1 = .ok (.iconst 2, 1) := by decide +kernel
theorem dM_lent_2 : decode (xb yyM_lent) 2 = .ok (.if_icmp .ge 7, 3) := by decide +kernel
theorem dM_lent_5 : decode (xb yyM_lent) 5 = .ok (.iconst 0, 1) := by decide +kernel
theorem dM_lent_6 : decode (xb yyM_lent) 6 = .ok (.goto 8, 3) := by decide +kernel
theorem dM_lent_9 : decode (xb yyM_lent) 9 = .ok (.iconst 3, 1) := by decide +kernel
theorem dM_lent_10 : decode (xb yyM_lent) 10 = .ok (.iload_n 1, 1) := by decide +kernel
theorem dM_lent_11 : decode (xb yyM_lent) 11 = .ok (.iconst 1, 1) := by decide +kernel
theorem dM_lent_12 : decode (xb yyM_lent) 12 = .ok (.isub, 1) := by decide +kernel
theorem dM_lent_13 : decode (xb yyM_lent) 13 = .ok (.imul, 1) := by decide +kernel
theorem dM_lent_14 : decode (xb yyM_lent) 14 = .ok (.istore_n 2, 1) := by decide +kernel
theorem dM_lent_15 : decode (xb yyM_lent) 15 = .ok (.iload_n 0, 1) := by decide +kernel
theorem dM_lent_16 : decode (xb yyM_lent) 16 = .ok (.iload_n 2, 1) := by decide +kernel
theorem dM_lent_17 : decode (xb yyM_lent) 17 = .ok (.if_icmp .ge 7, 3) := by decide +kernel
theorem dM_lent_20 : decode (xb yyM_lent) 20 = .ok (.iconst 0, 1) := by decide +kernel
theorem dM_lent_21 : decode (xb yyM_lent) 21 = .ok (.goto 6, 3) := by decide +kernel
theorem dM_lent_24 : decode (xb yyM_lent) 24 = .ok (.iload_n 0, 1) := by decide +kernel
theorem dM_lent_25 : decode (xb yyM_lent) 25 = .ok (.iload_n 2, 1) := by decide +kernel
theorem dM_lent_26 : decode (xb yyM_lent) 26 = .ok (.isub, 1) := by decide +kernel
theorem dM_lent_27 : decode (xb yyM_lent) 27 = .ok (.ireturn, 1) := by decide +kernel
def fM_lent_b14  (v0 : Int32) (s0 : Int32) : Option (Int32) := (if s0 ≤ v0 then some (v0 - s0) else some (0 : Int32))
def fM_lent  (v0 : Int32) (v1 : Int32) : Option (Int32) := (if (2 : Int32) ≤ v1 then fM_lent_b14 v0 ((3 : Int32) * (v1 - (1 : Int32))) else fM_lent_b14 v0 (0 : Int32))
set_option maxRecDepth 100000 in
set_option maxHeartbeats 4000000 in
theorem kM_lent_b14 (G : xG)   (S : xS)    (v0 : Int32) (s0 : Int32) : xR G yyM_lent (emi S) 14 [(0, .int v0)] [.int s0] S (fM_lent_b14  v0 s0) := by
  unfold fM_lent_b14
  refine xR_isn 14 ([(2, .int s0), (0, .int v0)]) dM_lent_14 rfl (by decide) rfl ?_
  refine xR_iln 15 1 dM_lent_15 rfl rfl ?_
  refine xR_iln 16 0 dM_lent_16 rfl rfl ?_
  refine xR_icge 17 24 dM_lent_17 (by decide) ?_ ?_
  · refine xR_iln 24 1 dM_lent_24 rfl rfl ?_
    refine xR_iln 25 0 dM_lent_25 rfl rfl ?_
    refine xR_isub 26 dM_lent_26 ?_
    exact xR_iret 27 rfl rfl dM_lent_27
  · refine xR_ic 20 (0 : Int32) dM_lent_20 (by decide) ?_
    refine xR_goto 21 27 dM_lent_21 (by decide) ?_
    exact xR_iret 27 rfl rfl dM_lent_27
set_option maxRecDepth 100000 in
set_option maxHeartbeats 4000000 in
theorem kM_lent (G : xG)   (S : xS)  (v0 : Int32) (v1 : Int32) : ∀ a, fM_lent  v0 v1 = some a → xCt G yyM_lent [.int v0, .int v1] S (some (.int a)) S := by
  refine xR_ct (em := (emi S)) rfl (Nat.le_of_ble_eq_true rfl) ?_
  show xR G yyM_lent _ 0 [(0, .int v0), (1, .int v1)] [] _ _
  unfold fM_lent
  refine xR_iln 0 1 dM_lent_0 rfl rfl ?_
  refine xR_ic 1 (2 : Int32) dM_lent_1 (by decide) ?_
  refine xR_icge 2 9 dM_lent_2 (by decide) ?_ ?_
  · refine xR_ic 9 (3 : Int32) dM_lent_9 (by decide) ?_
    refine xR_iln 10 1 dM_lent_10 rfl rfl ?_
    refine xR_ic 11 (1 : Int32) dM_lent_11 (by decide) ?_
    refine xR_isub 12 dM_lent_12 ?_
    refine xR_imul 13 dM_lent_13 ?_
    exact xR_sub [0] rfl (kM_lent_b14 G S v0 ((3 : Int32) * (v1 - (1 : Int32))))
  · refine xR_ic 5 (0 : Int32) dM_lent_5 (by decide) ?_
    refine xR_goto 6 14 dM_lent_6 (by decide) ?_
    exact xR_sub [0] rfl (kM_lent_b14 G S v0 (0 : Int32))
theorem dM_playOf_0 : decode (xb yyM_playOf) 0 = .ok (.iload_n 0, 1) := by decide +kernel
theorem dM_playOf_1 : decode (xb yyM_playOf) 1 = .ok (.tableswitch 107 1 5 #[35, 41, 53, 68, 86], 35) := by decide +kernel
theorem dM_playOf_36 : decode (xb yyM_playOf) 36 = .ok (.iload_n 2, 1) := by decide +kernel
theorem dM_playOf_37 : decode (xb yyM_playOf) 37 = .ok (.iload_n 3, 1) := by decide +kernel
theorem dM_playOf_38 : decode (xb yyM_playOf) 38 = .ok (.invokestatic 57, 3) := by decide +kernel
theorem dM_playOf_41 : decode (xb yyM_playOf) 41 = .ok (.ireturn, 1) := by decide +kernel
theorem dM_playOf_42 : decode (xb yyM_playOf) 42 = .ok (.iload_n 1, 1) := by decide +kernel
theorem dM_playOf_43 : decode (xb yyM_playOf) 43 = .ok (.ifCond .ne 9, 3) := by decide +kernel
theorem dM_playOf_46 : decode (xb yyM_playOf) 46 = .ok (.iconst 2, 1) := by decide +kernel
theorem dM_playOf_47 : decode (xb yyM_playOf) 47 = .ok (.iload_n 2, 1) := by decide +kernel
theorem dM_playOf_48 : decode (xb yyM_playOf) 48 = .ok (.imul, 1) := by decide +kernel
theorem dM_playOf_49 : decode (xb yyM_playOf) 49 = .ok (.goto 4, 3) := by decide +kernel
theorem dM_playOf_52 : decode (xb yyM_playOf) 52 = .ok (.iload_n 2, 1) := by decide +kernel
theorem dM_playOf_53 : decode (xb yyM_playOf) 53 = .ok (.ireturn, 1) := by decide +kernel
theorem dM_playOf_54 : decode (xb yyM_playOf) 54 = .ok (.iload_n 3, 1) := by decide +kernel
theorem dM_playOf_55 : decode (xb yyM_playOf) 55 = .ok (.iconst 3, 1) := by decide +kernel
theorem dM_playOf_56 : decode (xb yyM_playOf) 56 = .ok (.if_icmp .lt 7, 3) := by decide +kernel
theorem dM_playOf_59 : decode (xb yyM_playOf) 59 = .ok (.iconst 0, 1) := by decide +kernel
theorem dM_playOf_60 : decode (xb yyM_playOf) 60 = .ok (.goto 8, 3) := by decide +kernel
theorem dM_playOf_63 : decode (xb yyM_playOf) 63 = .ok (.iload_n 2, 1) := by decide +kernel
theorem dM_playOf_64 : decode (xb yyM_playOf) 64 = .ok (.iload_n 3, 1) := by decide +kernel
theorem dM_playOf_65 : decode (xb yyM_playOf) 65 = .ok (.invokestatic 57, 3) := by decide +kernel
theorem dM_playOf_68 : decode (xb yyM_playOf) 68 = .ok (.ireturn, 1) := by decide +kernel
theorem dM_playOf_69 : decode (xb yyM_playOf) 69 = .ok (.iload_n 1, 1) := by decide +kernel
theorem dM_playOf_70 : decode (xb yyM_playOf) 70 = .ok (.iconst 3, 1) := by decide +kernel
theorem dM_playOf_71 : decode (xb yyM_playOf) 71 = .ok (.if_icmp .ne 10, 3) := by decide +kernel
theorem dM_playOf_74 : decode (xb yyM_playOf) 74 = .ok (.iload_n 2, 1) := by decide +kernel
theorem dM_playOf_75 : decode (xb yyM_playOf) 75 = .ok (.iload 4, 2) := by decide +kernel
theorem dM_playOf_77 : decode (xb yyM_playOf) 77 = .ok (.iadd, 1) := by decide +kernel
theorem dM_playOf_78 : decode (xb yyM_playOf) 78 = .ok (.goto 8, 3) := by decide +kernel
theorem dM_playOf_81 : decode (xb yyM_playOf) 81 = .ok (.iload_n 2, 1) := by decide +kernel
theorem dM_playOf_82 : decode (xb yyM_playOf) 82 = .ok (.iconst 1, 1) := by decide +kernel
theorem dM_playOf_83 : decode (xb yyM_playOf) 83 = .ok (.iadd, 1) := by decide +kernel
theorem dM_playOf_84 : decode (xb yyM_playOf) 84 = .ok (.iconst 2, 1) := by decide +kernel
theorem dM_playOf_85 : decode (xb yyM_playOf) 85 = .ok (.idiv, 1) := by decide +kernel
theorem dM_playOf_86 : decode (xb yyM_playOf) 86 = .ok (.ireturn, 1) := by decide +kernel
theorem dM_playOf_87 : decode (xb yyM_playOf) 87 = .ok (.iload_n 1, 1) := by decide +kernel
theorem dM_playOf_88 : decode (xb yyM_playOf) 88 = .ok (.ifCond .ne 9, 3) := by decide +kernel
theorem dM_playOf_91 : decode (xb yyM_playOf) 91 = .ok (.iconst 2, 1) := by decide +kernel
theorem dM_playOf_92 : decode (xb yyM_playOf) 92 = .ok (.iload_n 2, 1) := by decide +kernel
theorem dM_playOf_93 : decode (xb yyM_playOf) 93 = .ok (.imul, 1) := by decide +kernel
theorem dM_playOf_94 : decode (xb yyM_playOf) 94 = .ok (.goto 13, 3) := by decide +kernel
theorem dM_playOf_97 : decode (xb yyM_playOf) 97 = .ok (.iload_n 1, 1) := by decide +kernel
theorem dM_playOf_98 : decode (xb yyM_playOf) 98 = .ok (.iconst 1, 1) := by decide +kernel
theorem dM_playOf_99 : decode (xb yyM_playOf) 99 = .ok (.if_icmp .ne 7, 3) := by decide +kernel
theorem dM_playOf_102 : decode (xb yyM_playOf) 102 = .ok (.iload_n 2, 1) := by decide +kernel
theorem dM_playOf_103 : decode (xb yyM_playOf) 103 = .ok (.goto 4, 3) := by decide +kernel
theorem dM_playOf_106 : decode (xb yyM_playOf) 106 = .ok (.iconst 0, 1) := by decide +kernel
theorem dM_playOf_107 : decode (xb yyM_playOf) 107 = .ok (.ireturn, 1) := by decide +kernel
theorem dM_playOf_108 : decode (xb yyM_playOf) 108 = .ok (.iload_n 2, 1) := by decide +kernel
theorem dM_playOf_109 : decode (xb yyM_playOf) 109 = .ok (.ireturn, 1) := by decide +kernel
def fM_playOf  (v0 : Int32) (v1 : Int32) (v2 : Int32) (v3 : Int32) (v4 : Int32) : Option (Int32) := (if v0 = (1 : Int32) then (fM_lent v2 v3).bind fun r38 => some r38 else (if v0 = (2 : Int32) then (if v1 = 0 then some ((2 : Int32) * v2) else some v2) else (if v0 = (3 : Int32) then (if v3 < (3 : Int32) then (fM_lent v2 v3).bind fun r65 => some r65 else some (0 : Int32)) else (if v0 = (4 : Int32) then (if v1 = (3 : Int32) then some (v2 + v4) else some ((v2 + (1 : Int32)) / (2 : Int32))) else (if v0 = (5 : Int32) then (if v1 = 0 then some ((2 : Int32) * v2) else (if v1 = (1 : Int32) then some v2 else some (0 : Int32))) else some v2)))))
set_option maxRecDepth 100000 in
set_option maxHeartbeats 4000000 in
theorem kM_playOf (G : xG)   (S : xS)  (v0 : Int32) (v1 : Int32) (v2 : Int32) (v3 : Int32) (v4 : Int32) : ∀ a, fM_playOf  v0 v1 v2 v3 v4 = some a → xCt G yyM_playOf [.int v0, .int v1, .int v2, .int v3, .int v4] S (some (.int a)) S := by
  refine xR_ct (em := (emi S)) rfl (Nat.le_of_ble_eq_true rfl) ?_
  show xR G yyM_playOf _ 0 [(0, .int v0), (1, .int v1), (2, .int v2), (3, .int v3), (4, .int v4)] [] _ _
  unfold fM_playOf
  refine xR_iln 0 0 dM_playOf_0 rfl rfl ?_
  refine xR_tsw 1 36 (1 : Int32) dM_playOf_1 (by decide) (by decide) rfl (by decide) ?_ (fun hs1_0 => ?_)
  · refine xR_iln 36 2 dM_playOf_36 rfl rfl ?_
    refine xR_iln 37 3 dM_playOf_37 rfl rfl ?_
    refine xR_callSi 38 cs_M_lent ml_RX9_57 ⟨Nat.le_of_ble_eq_true rfl, Nat.le_of_ble_eq_true rfl⟩ [.int v2, .int v3] rfl rfl (Nat.le_of_ble_eq_true rfl) dM_playOf_38 (kM_lent G S v2 v3) (fun r38 => ?_)
    exact xR_iret 41 rfl rfl dM_playOf_41
  refine xR_tsw 1 42 (2 : Int32) dM_playOf_1 (by decide) (by decide) rfl (by decide) ?_ (fun hs1_1 => ?_)
  · refine xR_iln 42 1 dM_playOf_42 rfl rfl ?_
    refine xR_ifne 43 52 dM_playOf_43 (by decide) ?_ ?_
    · refine xR_iln 52 2 dM_playOf_52 rfl rfl ?_
      exact xR_iret 53 rfl rfl dM_playOf_53
    · refine xR_ic 46 (2 : Int32) dM_playOf_46 (by decide) ?_
      refine xR_iln 47 2 dM_playOf_47 rfl rfl ?_
      refine xR_imul 48 dM_playOf_48 ?_
      refine xR_goto 49 53 dM_playOf_49 (by decide) ?_
      exact xR_iret 53 rfl rfl dM_playOf_53
  refine xR_tsw 1 54 (3 : Int32) dM_playOf_1 (by decide) (by decide) rfl (by decide) ?_ (fun hs1_2 => ?_)
  · refine xR_iln 54 3 dM_playOf_54 rfl rfl ?_
    refine xR_ic 55 (3 : Int32) dM_playOf_55 (by decide) ?_
    refine xR_iclt 56 63 dM_playOf_56 (by decide) ?_ ?_
    · refine xR_iln 63 2 dM_playOf_63 rfl rfl ?_
      refine xR_iln 64 3 dM_playOf_64 rfl rfl ?_
      refine xR_callSi 65 cs_M_lent ml_RX9_57 ⟨Nat.le_of_ble_eq_true rfl, Nat.le_of_ble_eq_true rfl⟩ [.int v2, .int v3] rfl rfl (Nat.le_of_ble_eq_true rfl) dM_playOf_65 (kM_lent G S v2 v3) (fun r65 => ?_)
      exact xR_iret 68 rfl rfl dM_playOf_68
    · refine xR_ic 59 (0 : Int32) dM_playOf_59 (by decide) ?_
      refine xR_goto 60 68 dM_playOf_60 (by decide) ?_
      exact xR_iret 68 rfl rfl dM_playOf_68
  refine xR_tsw 1 69 (4 : Int32) dM_playOf_1 (by decide) (by decide) rfl (by decide) ?_ (fun hs1_3 => ?_)
  · refine xR_iln 69 1 dM_playOf_69 rfl rfl ?_
    refine xR_ic 70 (3 : Int32) dM_playOf_70 (by decide) ?_
    refine xR_icne 71 81 dM_playOf_71 (by decide) ?_ ?_
    · refine xR_iln 81 2 dM_playOf_81 rfl rfl ?_
      refine xR_ic 82 (1 : Int32) dM_playOf_82 (by decide) ?_
      refine xR_iadd 83 dM_playOf_83 ?_
      refine xR_ic 84 (2 : Int32) dM_playOf_84 (by decide) ?_
      refine xR_idiv 85 dM_playOf_85 (by decide) ?_
      exact xR_iret 86 rfl rfl dM_playOf_86
    · refine xR_iln 74 2 dM_playOf_74 rfl rfl ?_
      refine xR_il 75 4 dM_playOf_75 rfl ?_
      refine xR_iadd 77 dM_playOf_77 ?_
      refine xR_goto 78 86 dM_playOf_78 (by decide) ?_
      exact xR_iret 86 rfl rfl dM_playOf_86
  refine xR_tsw 1 87 (5 : Int32) dM_playOf_1 (by decide) (by decide) rfl (by decide) ?_ (fun hs1_4 => ?_)
  · refine xR_iln 87 1 dM_playOf_87 rfl rfl ?_
    refine xR_ifne 88 97 dM_playOf_88 (by decide) ?_ ?_
    · refine xR_iln 97 1 dM_playOf_97 rfl rfl ?_
      refine xR_ic 98 (1 : Int32) dM_playOf_98 (by decide) ?_
      refine xR_icne 99 106 dM_playOf_99 (by decide) ?_ ?_
      · refine xR_ic 106 (0 : Int32) dM_playOf_106 (by decide) ?_
        exact xR_iret 107 rfl rfl dM_playOf_107
      · refine xR_iln 102 2 dM_playOf_102 rfl rfl ?_
        refine xR_goto 103 107 dM_playOf_103 (by decide) ?_
        exact xR_iret 107 rfl rfl dM_playOf_107
    · refine xR_ic 91 (2 : Int32) dM_playOf_91 (by decide) ?_
      refine xR_iln 92 2 dM_playOf_92 rfl rfl ?_
      refine xR_imul 93 dM_playOf_93 ?_
      refine xR_goto 94 107 dM_playOf_94 (by decide) ?_
      exact xR_iret 107 rfl rfl dM_playOf_107
  refine xR_tso 1 108 dM_playOf_1 (by have e0 := lv_neT hs1_0 (a := 1) rfl; have e1 := lv_neT hs1_1 (a := 2) rfl; have e2 := lv_neT hs1_2 (a := 3) rfl; have e3 := lv_neT hs1_3 (a := 4) rfl; have e4 := lv_neT hs1_4 (a := 5) rfl; omega) (by decide) ?_
  refine xR_iln 108 2 dM_playOf_108 rfl rfl ?_
  exact xR_iret 109 rfl rfl dM_playOf_109
theorem dM_less_0 : decode (xb yyM_less) 0 = .ok (.iload_n 0, 1) := by decide +kernel
theorem dM_less_1 : decode (xb yyM_less) 1 = .ok (.iload_n 1, 1) := by decide +kernel
theorem dM_less_2 : decode (xb yyM_less) 2 = .ok (.if_icmp .ge 7, 3) := by decide +kernel
theorem dM_less_5 : decode (xb yyM_less) 5 = .ok (.iconst 0, 1) := by decide +kernel
theorem dM_less_6 : decode (xb yyM_less) 6 = .ok (.goto 6, 3) := by decide +kernel
theorem dM_less_9 : decode (xb yyM_less) 9 = .ok (.iload_n 0, 1) := by decide +kernel
theorem dM_less_10 : decode (xb yyM_less) 10 = .ok (.iload_n 1, 1) := by decide +kernel
theorem dM_less_11 : decode (xb yyM_less) 11 = .ok (.isub, 1) := by decide +kernel
theorem dM_less_12 : decode (xb yyM_less) 12 = .ok (.ireturn, 1) := by decide +kernel
def fM_less  (v0 : Int32) (v1 : Int32) : Option (Int32) := (if v1 ≤ v0 then some (v0 - v1) else some (0 : Int32))
set_option maxRecDepth 100000 in
set_option maxHeartbeats 4000000 in
theorem kM_less (G : xG)   (S : xS)  (v0 : Int32) (v1 : Int32) : ∀ a, fM_less  v0 v1 = some a → xCt G yyM_less [.int v0, .int v1] S (some (.int a)) S := by
  refine xR_ct (em := (emi S)) rfl (Nat.le_of_ble_eq_true rfl) ?_
  show xR G yyM_less _ 0 [(0, .int v0), (1, .int v1)] [] _ _
  unfold fM_less
  refine xR_iln 0 0 dM_less_0 rfl rfl ?_
  refine xR_iln 1 1 dM_less_1 rfl rfl ?_
  refine xR_icge 2 9 dM_less_2 (by decide) ?_ ?_
  · refine xR_iln 9 0 dM_less_9 rfl rfl ?_
    refine xR_iln 10 1 dM_less_10 rfl rfl ?_
    refine xR_isub 11 dM_less_11 ?_
    exact xR_iret 12 rfl rfl dM_less_12
  · refine xR_ic 5 (0 : Int32) dM_less_5 (by decide) ?_
    refine xR_goto 6 12 dM_less_6 (by decide) ?_
    exact xR_iret 12 rfl rfl dM_less_12
theorem dM_getsBy_0 : decode (xb yyM_getsBy) 0 = .ok (.iload_n 1, 1) := by decide +kernel
theorem dM_getsBy_1 : decode (xb yyM_getsBy) 1 = .ok (.iload_n 2, 1) := by decide +kernel
theorem dM_getsBy_2 : decode (xb yyM_getsBy) 2 = .ok (.if_icmp .gt 12, 3) := by decide +kernel
theorem dM_getsBy_5 : decode (xb yyM_getsBy) 5 = .ok (.iload_n 1, 1) := by decide +kernel
theorem dM_getsBy_6 : decode (xb yyM_getsBy) 6 = .ok (.iload_n 2, 1) := by decide +kernel
theorem dM_getsBy_7 : decode (xb yyM_getsBy) 7 = .ok (.if_icmp .ne 13, 3) := by decide +kernel
theorem dM_getsBy_10 : decode (xb yyM_getsBy) 10 = .ok (.iload_n 3, 1) := by decide +kernel
theorem dM_getsBy_11 : decode (xb yyM_getsBy) 11 = .ok (.ifCond .eq 9, 3) := by decide +kernel
theorem dM_getsBy_14 : decode (xb yyM_getsBy) 14 = .ok (.iload_n 0, 1) := by decide +kernel
theorem dM_getsBy_15 : decode (xb yyM_getsBy) 15 = .ok (.iload_n 1, 1) := by decide +kernel
theorem dM_getsBy_16 : decode (xb yyM_getsBy) 16 = .ok (.isub, 1) := by decide +kernel
theorem dM_getsBy_17 : decode (xb yyM_getsBy) 17 = .ok (.goto 7, 3) := by decide +kernel
theorem dM_getsBy_20 : decode (xb yyM_getsBy) 20 = .ok (.iload_n 1, 1) := by decide +kernel
theorem dM_getsBy_21 : decode (xb yyM_getsBy) 21 = .ok (.iconst 2, 1) := by decide +kernel
theorem dM_getsBy_22 : decode (xb yyM_getsBy) 22 = .ok (.idiv, 1) := by decide +kernel
theorem dM_getsBy_23 : decode (xb yyM_getsBy) 23 = .ok (.ineg, 1) := by decide +kernel
theorem dM_getsBy_24 : decode (xb yyM_getsBy) 24 = .ok (.ireturn, 1) := by decide +kernel
def fM_getsBy  (v0 : Int32) (v1 : Int32) (v2 : Int32) (v3 : Int32) : Option (Int32) := (if v2 < v1 then some (v0 - v1) else (if v1 = v2 then (if v3 = 0 then some (-(v1 / (2 : Int32))) else some (v0 - v1)) else some (-(v1 / (2 : Int32)))))
set_option maxRecDepth 100000 in
set_option maxHeartbeats 4000000 in
theorem kM_getsBy (G : xG)   (S : xS)  (v0 : Int32) (v1 : Int32) (v2 : Int32) (v3 : Int32) : ∀ a, fM_getsBy  v0 v1 v2 v3 = some a → xCt G yyM_getsBy [.int v0, .int v1, .int v2, .int v3] S (some (.int a)) S := by
  refine xR_ct (em := (emi S)) rfl (Nat.le_of_ble_eq_true rfl) ?_
  show xR G yyM_getsBy _ 0 [(0, .int v0), (1, .int v1), (2, .int v2), (3, .int v3)] [] _ _
  unfold fM_getsBy
  refine xR_iln 0 1 dM_getsBy_0 rfl rfl ?_
  refine xR_iln 1 2 dM_getsBy_1 rfl rfl ?_
  refine xR_icgt 2 14 dM_getsBy_2 (by decide) ?_ ?_
  · refine xR_iln 14 0 dM_getsBy_14 rfl rfl ?_
    refine xR_iln 15 1 dM_getsBy_15 rfl rfl ?_
    refine xR_isub 16 dM_getsBy_16 ?_
    refine xR_goto 17 24 dM_getsBy_17 (by decide) ?_
    exact xR_iret 24 rfl rfl dM_getsBy_24
  · refine xR_iln 5 1 dM_getsBy_5 rfl rfl ?_
    refine xR_iln 6 2 dM_getsBy_6 rfl rfl ?_
    refine xR_icne 7 20 dM_getsBy_7 (by decide) ?_ ?_
    · refine xR_iln 20 1 dM_getsBy_20 rfl rfl ?_
      refine xR_ic 21 (2 : Int32) dM_getsBy_21 (by decide) ?_
      refine xR_idiv 22 dM_getsBy_22 (by decide) ?_
      refine xR_ineg 23 dM_getsBy_23 ?_
      exact xR_iret 24 rfl rfl dM_getsBy_24
    · refine xR_iln 10 3 dM_getsBy_10 rfl rfl ?_
      refine xR_ifeq 11 20 dM_getsBy_11 (by decide) ?_ ?_
      · refine xR_iln 20 1 dM_getsBy_20 rfl rfl ?_
        refine xR_ic 21 (2 : Int32) dM_getsBy_21 (by decide) ?_
        refine xR_idiv 22 dM_getsBy_22 (by decide) ?_
        refine xR_ineg 23 dM_getsBy_23 ?_
        exact xR_iret 24 rfl rfl dM_getsBy_24
      · refine xR_iln 14 0 dM_getsBy_14 rfl rfl ?_
        refine xR_iln 15 1 dM_getsBy_15 rfl rfl ?_
        refine xR_isub 16 dM_getsBy_16 ?_
        refine xR_goto 17 24 dM_getsBy_17 (by decide) ?_
        exact xR_iret 24 rfl rfl dM_getsBy_24
theorem dM_rests_0 : decode (xb yyM_rests) 0 = .ok (.iconst 1, 1) := by decide +kernel
theorem dM_rests_1 : decode (xb yyM_rests) 1 = .ok (.istore_n 3, 1) := by decide +kernel
theorem dM_rests_2 : decode (xb yyM_rests) 2 = .ok (.iconst 0, 1) := by decide +kernel
theorem dM_rests_3 : decode (xb yyM_rests) 3 = .ok (.istore 4, 2) := by decide +kernel
theorem dM_rests_5 : decode (xb yyM_rests) 5 = .ok (.iload 4, 2) := by decide +kernel
theorem dM_rests_7 : decode (xb yyM_rests) 7 = .ok (.bipush 10, 2) := by decide +kernel
theorem dM_rests_9 : decode (xb yyM_rests) 9 = .ok (.if_icmp .ge 55, 3) := by decide +kernel
theorem dM_rests_12 : decode (xb yyM_rests) 12 = .ok (.iload_n 3, 1) := by decide +kernel
theorem dM_rests_13 : decode (xb yyM_rests) 13 = .ok (.ifCond .eq 43, 3) := by decide +kernel
theorem dM_rests_16 : decode (xb yyM_rests) 16 = .ok (.iload_n 0, 1) := by decide +kernel
theorem dM_rests_17 : decode (xb yyM_rests) 17 = .ok (.iload 4, 2) := by decide +kernel
theorem dM_rests_19 : decode (xb yyM_rests) 19 = .ok (.iload_n 2, 1) := by decide +kernel
theorem dM_rests_20 : decode (xb yyM_rests) 20 = .ok (.iconst 1, 1) := by decide +kernel
theorem dM_rests_21 : decode (xb yyM_rests) 21 = .ok (.invokestatic 249, 3) := by decide +kernel
theorem dM_rests_24 : decode (xb yyM_rests) 24 = .ok (.iload_n 0, 1) := by decide +kernel
theorem dM_rests_25 : decode (xb yyM_rests) 25 = .ok (.iload_n 1, 1) := by decide +kernel
theorem dM_rests_26 : decode (xb yyM_rests) 26 = .ok (.iload_n 2, 1) := by decide +kernel
theorem dM_rests_27 : decode (xb yyM_rests) 27 = .ok (.iconst 1, 1) := by decide +kernel
theorem dM_rests_28 : decode (xb yyM_rests) 28 = .ok (.invokestatic 249, 3) := by decide +kernel
theorem dM_rests_31 : decode (xb yyM_rests) 31 = .ok (.if_icmp .gt 25, 3) := by decide +kernel
theorem dM_rests_34 : decode (xb yyM_rests) 34 = .ok (.iload_n 0, 1) := by decide +kernel
theorem dM_rests_35 : decode (xb yyM_rests) 35 = .ok (.iload 4, 2) := by decide +kernel
theorem dM_rests_37 : decode (xb yyM_rests) 37 = .ok (.iload_n 1, 1) := by decide +kernel
theorem dM_rests_38 : decode (xb yyM_rests) 38 = .ok (.iconst 0, 1) := by decide +kernel
theorem dM_rests_39 : decode (xb yyM_rests) 39 = .ok (.invokestatic 249, 3) := by decide +kernel
theorem dM_rests_42 : decode (xb yyM_rests) 42 = .ok (.iload_n 0, 1) := by decide +kernel
theorem dM_rests_43 : decode (xb yyM_rests) 43 = .ok (.iload_n 2, 1) := by decide +kernel
theorem dM_rests_44 : decode (xb yyM_rests) 44 = .ok (.iload_n 1, 1) := by decide +kernel
theorem dM_rests_45 : decode (xb yyM_rests) 45 = .ok (.iconst 0, 1) := by decide +kernel
theorem dM_rests_46 : decode (xb yyM_rests) 46 = .ok (.invokestatic 249, 3) := by decide +kernel
theorem dM_rests_49 : decode (xb yyM_rests) 49 = .ok (.if_icmp .gt 7, 3) := by decide +kernel
theorem dM_rests_52 : decode (xb yyM_rests) 52 = .ok (.iconst 1, 1) := by decide +kernel
theorem dM_rests_53 : decode (xb yyM_rests) 53 = .ok (.goto 4, 3) := by decide +kernel
theorem dM_rests_56 : decode (xb yyM_rests) 56 = .ok (.iconst 0, 1) := by decide +kernel
theorem dM_rests_57 : decode (xb yyM_rests) 57 = .ok (.istore_n 3, 1) := by decide +kernel
theorem dM_rests_58 : decode (xb yyM_rests) 58 = .ok (.iinc 4 1, 3) := by decide +kernel
theorem dM_rests_61 : decode (xb yyM_rests) 61 = .ok (.goto (-56), 3) := by decide +kernel
theorem dM_rests_64 : decode (xb yyM_rests) 64 = .ok (.iload_n 3, 1) := by decide +kernel
theorem dM_rests_65 : decode (xb yyM_rests) 65 = .ok (.ireturn, 1) := by decide +kernel
def fM_rests_b57 (k5 : Int32 → Int32 → Int32 → Int32 → Int32 → Option (Int32)) (v0 : Int32) (v1 : Int32) (v2 : Int32) (v4 : Int32) (s0 : Int32) : Option (Int32) := k5 v0 v1 v2 s0 (v4 + 1)
def fM_rests_b56 (k5 : Int32 → Int32 → Int32 → Int32 → Int32 → Option (Int32)) (v0 : Int32) (v1 : Int32) (v2 : Int32) (v4 : Int32) : Option (Int32) := fM_rests_b57 k5 v0 v1 v2 v4 (0 : Int32)
def fM_rests_l5  : Nat → Int32 → Int32 → Int32 → Int32 → Int32 → Option (Int32)
  | 0, _, _, _, _, _ => none
  | n + 1, v0, v1, v2, v3, v4 => (if (10 : Int32) ≤ v4 then some (xnb v3) else (if v3 = 0 then fM_rests_b56 (fM_rests_l5 n) v0 v1 v2 v4 else (fM_getsBy v0 v4 v2 (1 : Int32)).bind fun r21 => (fM_getsBy v0 v1 v2 (1 : Int32)).bind fun r28 => (if r28 < r21 then fM_rests_b56 (fM_rests_l5 n) v0 v1 v2 v4 else (fM_getsBy v0 v4 v1 (0 : Int32)).bind fun r39 => (fM_getsBy v0 v2 v1 (0 : Int32)).bind fun r46 => (if r46 < r39 then fM_rests_b56 (fM_rests_l5 n) v0 v1 v2 v4 else fM_rests_b57 (fM_rests_l5 n) v0 v1 v2 v4 (1 : Int32)))))
def fM_rests  (v0 : Int32) (v1 : Int32) (v2 : Int32) : Option (Int32) := fM_rests_l5 xfu v0 v1 v2 (1 : Int32) (0 : Int32)
set_option maxRecDepth 100000 in
set_option maxHeartbeats 4000000 in
theorem kM_rests_b57 (G : xG)   (S : xS)  (k5 : Int32 → Int32 → Int32 → Int32 → Int32 → Option (Int32)) (hk5 : ∀ (v0 : Int32) (v1 : Int32) (v2 : Int32) (v3 : Int32) (v4 : Int32), xR G yyM_rests (emi S) 5 [(0, .int v0), (1, .int v1), (2, .int v2), (3, .int v3), (4, .int v4)] [] S (k5 v0 v1 v2 v3 v4)) (v0 : Int32) (v1 : Int32) (v2 : Int32) (v4 : Int32) (s0 : Int32) : xR G yyM_rests (emi S) 57 [(0, .int v0), (1, .int v1), (2, .int v2), (4, .int v4)] [.int s0] S (fM_rests_b57 k5 v0 v1 v2 v4 s0) := by
  unfold fM_rests_b57
  refine xR_isn 57 ([(3, .int s0), (0, .int v0), (1, .int v1), (2, .int v2), (4, .int v4)]) dM_rests_57 rfl (by decide) rfl ?_
  refine xR_iinc 58 4 (v4 + 1) ([(4, .int (v4 + 1)), (3, .int s0), (0, .int v0), (1, .int v1), (2, .int v2)]) dM_rests_58 rfl rfl (by decide) rfl ?_
  refine xR_goto 61 5 dM_rests_61 (by decide) ?_
  exact xR_sub [2, 3, 4, 1, 0] rfl (hk5 v0 v1 v2 s0 (v4 + 1))
set_option maxRecDepth 100000 in
set_option maxHeartbeats 4000000 in
theorem kM_rests_b56 (G : xG)   (S : xS)  (k5 : Int32 → Int32 → Int32 → Int32 → Int32 → Option (Int32)) (hk5 : ∀ (v0 : Int32) (v1 : Int32) (v2 : Int32) (v3 : Int32) (v4 : Int32), xR G yyM_rests (emi S) 5 [(0, .int v0), (1, .int v1), (2, .int v2), (3, .int v3), (4, .int v4)] [] S (k5 v0 v1 v2 v3 v4)) (v0 : Int32) (v1 : Int32) (v2 : Int32) (v4 : Int32) : xR G yyM_rests (emi S) 56 [(0, .int v0), (1, .int v1), (2, .int v2), (4, .int v4)] [] S (fM_rests_b56 k5 v0 v1 v2 v4) := by
  unfold fM_rests_b56
  refine xR_ic 56 (0 : Int32) dM_rests_56 (by decide) ?_
  exact kM_rests_b57 G S k5 hk5 v0 v1 v2 v4 (0 : Int32)
set_option maxRecDepth 100000 in
set_option maxHeartbeats 4000000 in
theorem kM_rests_l5 (G : xG)   (S : xS)    : ∀ (n : Nat) (v0 : Int32) (v1 : Int32) (v2 : Int32) (v3 : Int32) (v4 : Int32), xR G yyM_rests (emi S) 5 [(0, .int v0), (1, .int v1), (2, .int v2), (3, .int v3), (4, .int v4)] [] S (fM_rests_l5  n v0 v1 v2 v3 v4) := by
  intro n
  induction n with
  | zero =>
    intro v0 v1 v2 v3 v4
    rw [fM_rests_l5]
    exact xR_none
  | succ n ih =>
    intro v0 v1 v2 v3 v4
    rw [fM_rests_l5]
    refine xR_il 5 4 dM_rests_5 rfl ?_
    refine xR_bp 7 (10 : Int32) dM_rests_7 (by decide) ?_
    refine xR_icge 9 64 dM_rests_9 (by decide) ?_ ?_
    · refine xR_iln 64 3 dM_rests_64 rfl rfl ?_
      exact xR_zret 65 rfl rfl dM_rests_65
    · refine xR_iln 12 3 dM_rests_12 rfl rfl ?_
      refine xR_ifeq 13 56 dM_rests_13 (by decide) ?_ ?_
      · exact xR_sub [0, 1, 2, 4] rfl (kM_rests_b56 G S (fM_rests_l5 n) ih v0 v1 v2 v4)
      · refine xR_iln 16 0 dM_rests_16 rfl rfl ?_
        refine xR_il 17 4 dM_rests_17 rfl ?_
        refine xR_iln 19 2 dM_rests_19 rfl rfl ?_
        refine xR_ic 20 (1 : Int32) dM_rests_20 (by decide) ?_
        refine xR_callSi 21 cs_M_getsBy ml_RX9_249 ⟨Nat.le_of_ble_eq_true rfl, Nat.le_of_ble_eq_true rfl⟩ [.int v0, .int v4, .int v2, .int (1 : Int32)] rfl rfl (Nat.le_of_ble_eq_true rfl) dM_rests_21 (kM_getsBy G S v0 v4 v2 (1 : Int32)) (fun r21 => ?_)
        refine xR_iln 24 0 dM_rests_24 rfl rfl ?_
        refine xR_iln 25 1 dM_rests_25 rfl rfl ?_
        refine xR_iln 26 2 dM_rests_26 rfl rfl ?_
        refine xR_ic 27 (1 : Int32) dM_rests_27 (by decide) ?_
        refine xR_callSi 28 cs_M_getsBy ml_RX9_249 ⟨Nat.le_of_ble_eq_true rfl, Nat.le_of_ble_eq_true rfl⟩ [.int v0, .int v1, .int v2, .int (1 : Int32)] rfl rfl (Nat.le_of_ble_eq_true rfl) dM_rests_28 (kM_getsBy G S v0 v1 v2 (1 : Int32)) (fun r28 => ?_)
        refine xR_icgt 31 56 dM_rests_31 (by decide) ?_ ?_
        · exact xR_sub [0, 1, 2, 4] rfl (kM_rests_b56 G S (fM_rests_l5 n) ih v0 v1 v2 v4)
        · refine xR_iln 34 0 dM_rests_34 rfl rfl ?_
          refine xR_il 35 4 dM_rests_35 rfl ?_
          refine xR_iln 37 1 dM_rests_37 rfl rfl ?_
          refine xR_ic 38 (0 : Int32) dM_rests_38 (by decide) ?_
          refine xR_callSi 39 cs_M_getsBy ml_RX9_249 ⟨Nat.le_of_ble_eq_true rfl, Nat.le_of_ble_eq_true rfl⟩ [.int v0, .int v4, .int v1, .int (0 : Int32)] rfl rfl (Nat.le_of_ble_eq_true rfl) dM_rests_39 (kM_getsBy G S v0 v4 v1 (0 : Int32)) (fun r39 => ?_)
          refine xR_iln 42 0 dM_rests_42 rfl rfl ?_
          refine xR_iln 43 2 dM_rests_43 rfl rfl ?_
          refine xR_iln 44 1 dM_rests_44 rfl rfl ?_
          refine xR_ic 45 (0 : Int32) dM_rests_45 (by decide) ?_
          refine xR_callSi 46 cs_M_getsBy ml_RX9_249 ⟨Nat.le_of_ble_eq_true rfl, Nat.le_of_ble_eq_true rfl⟩ [.int v0, .int v2, .int v1, .int (0 : Int32)] rfl rfl (Nat.le_of_ble_eq_true rfl) dM_rests_46 (kM_getsBy G S v0 v2 v1 (0 : Int32)) (fun r46 => ?_)
          refine xR_icgt 49 56 dM_rests_49 (by decide) ?_ ?_
          · exact xR_sub [0, 1, 2, 4] rfl (kM_rests_b56 G S (fM_rests_l5 n) ih v0 v1 v2 v4)
          · refine xR_ic 52 (1 : Int32) dM_rests_52 (by decide) ?_
            refine xR_goto 53 57 dM_rests_53 (by decide) ?_
            exact xR_sub [0, 1, 2, 4] rfl (kM_rests_b57 G S (fM_rests_l5 n) ih v0 v1 v2 v4 (1 : Int32))
set_option maxRecDepth 100000 in
set_option maxHeartbeats 4000000 in
theorem kM_rests (G : xG)   (S : xS)  (v0 : Int32) (v1 : Int32) (v2 : Int32) : ∀ a, fM_rests  v0 v1 v2 = some a → xCt G yyM_rests [.int v0, .int v1, .int v2] S (some (.int a)) S := by
  refine xR_ct (em := (emi S)) rfl (Nat.le_of_ble_eq_true rfl) ?_
  show xR G yyM_rests _ 0 [(0, .int v0), (1, .int v1), (2, .int v2)] [] _ _
  unfold fM_rests
  refine xR_ic 0 (1 : Int32) dM_rests_0 (by decide) ?_
  refine xR_isn 1 ([(3, .int (1 : Int32)), (0, .int v0), (1, .int v1), (2, .int v2)]) dM_rests_1 rfl (by decide) rfl ?_
  refine xR_ic 2 (0 : Int32) dM_rests_2 (by decide) ?_
  refine xR_is 3 ([(4, .int (0 : Int32)), (3, .int (1 : Int32)), (0, .int v0), (1, .int v1), (2, .int v2)]) dM_rests_3 (by decide) rfl ?_
  exact xR_sub [2, 3, 4, 1, 0] rfl (kM_rests_l5 G S xfu v0 v1 v2 (1 : Int32) (0 : Int32))
