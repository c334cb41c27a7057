theorem dB_many_0 : decode (xb yyB_many) 0 = .ok (.aload_n 0, 1) := by decide +kernel
theorem dB_many_1 : decode (xb yyB_many) 1 = .ok (.getfield 14, 3) := by decide +kernel
theorem dB_many_4 : decode (xb yyB_many) 4 = .ok (.invokevirtual 20, 3) := by decide +kernel
theorem dB_many_7 : decode (xb yyB_many) 7 = .ok (.ireturn, 1) := by decide +kernel
def fB_many (t : Nat) (m : xM) : Option (Int32) := (fT_many (xtb t) m).bind fun r4 => some r4
set_option maxRecDepth 100000 in
set_option maxHeartbeats 4000000 in
theorem kB_many (G : xG) (t : Nat) (ht : t < 5) (z : xM) (m : xM) : ∀ a, fB_many t m  = some a → xCt G yyB_many [.ref (xa G (72 + t))] (m, z) (some (.int a)) (m, z) := by
  refine xR_ct (em := (emi (m, z))) rfl (Nat.le_of_ble_eq_true rfl) ?_
  show xR G yyB_many _ 0 [(0, .ref (xa G (72 + t)))] [] _ _
  unfold fB_many
  refine xR_aln 0 0 dB_many_0 rfl rfl ?_
  refine xR_getf 1 xcf0 0 (72 + t) (by decide) (xk_B ht) (xC_brd ht) (v := .ref (xa G (36 + (xtb t)))) rfl fl_RX0_14 dB_many_1 ?_
  refine xR_callVi 4 cv_T_many ml_RX0_20 ⟨Nat.le_of_ble_eq_true rfl, Nat.le_of_ble_eq_true rfl⟩ xcf3 rfl (36 + (xtb t)) (xk_T (xtb_lt ht)) (xC_tab (xtb_lt ht)) [] rfl rfl (Nat.le_of_ble_eq_true rfl) dB_many_4 (kT_many G (xtb t) (xtb_lt ht) z m) (fun r4 => ?_)
  exact xR_iret 7 rfl rfl dB_many_7
theorem dB_empty_0 : decode (xb yyB_empty) 0 = .ok (.aload_n 0, 1) := by decide +kernel
theorem dB_empty_1 : decode (xb yyB_empty) 1 = .ok (.getfield 14, 3) := by decide +kernel
theorem dB_empty_4 : decode (xb yyB_empty) 4 = .ok (.invokevirtual 32, 3) := by decide +kernel
theorem dB_empty_7 : decode (xb yyB_empty) 7 = .ok (.aload_n 0, 1) := by decide +kernel
theorem dB_empty_8 : decode (xb yyB_empty) 8 = .ok (.iconst 0, 1) := by decide +kernel
theorem dB_empty_9 : decode (xb yyB_empty) 9 = .ok (.putfield 35, 3) := by decide +kernel
theorem dB_empty_12 : decode (xb yyB_empty) 12 = .ok (.return_, 1) := by decide +kernel
def fB_empty (t : Nat) (m : xM) : Option (xM) := (fT_empty (xtb t) m).bind fun r4 => some (xset r4 37 t (0 : Int32))
set_option maxRecDepth 100000 in
set_option maxHeartbeats 4000000 in
theorem kB_empty (G : xG) (t : Nat) (ht : t < 5) (z : xM) (m : xM) : ∀ a, fB_empty t m = some a → xCt G yyB_empty [.ref (xa G (72 + t))] (m, z) (none) (a, z) := by
  refine xR_ct (em := (emvc z)) rfl (Nat.le_of_ble_eq_true rfl) ?_
  show xR G yyB_empty _ 0 [(0, .ref (xa G (72 + t)))] [] _ _
  unfold fB_empty
  refine xR_aln 0 0 dB_empty_0 rfl rfl ?_
  refine xR_getf 1 xcf0 0 (72 + t) (by decide) (xk_B ht) (xC_brd ht) (v := .ref (xa G (36 + (xtb t)))) rfl fl_RX0_14 dB_empty_1 ?_
  refine xR_callVvc 4 cv_T_empty ml_RX0_32 ⟨Nat.le_of_ble_eq_true rfl, Nat.le_of_ble_eq_true rfl⟩ xcf3 rfl (36 + (xtb t)) (xk_T (xtb_lt ht)) (xC_tab (xtb_lt ht)) [] rfl rfl (Nat.le_of_ble_eq_true rfl) dB_empty_4 (kT_empty G (xtb t) (xtb_lt ht) z m) (fun r4 => ?_)
  refine xR_aln 7 0 dB_empty_7 rfl rfl ?_
  refine xR_ic 8 (0 : Int32) dB_empty_8 (by decide) ?_
  refine xR_putf 9 xcf0 1 (72 + t) (by decide) (xk_B ht) (xC_brd ht) rfl rfl rfl (Nat.le_of_ble_eq_true rfl) ((xset r4 37 t (0 : Int32)), z) (xW_year ht) fl_RX0_35 dB_empty_9 ?_
  exact xR_vret 12 rfl rfl dB_empty_12
theorem dB_bring_0 : decode (xb yyB_bring) 0 = .ok (.aload_n 0, 1) := by decide +kernel
theorem dB_bring_1 : decode (xb yyB_bring) 1 = .ok (.getfield 14, 3) := by decide +kernel
theorem dB_bring_4 : decode (xb yyB_bring) 4 = .ok (.invokevirtual 43, 3) := by decide +kernel
theorem dB_bring_7 : decode (xb yyB_bring) 7 = .ok (.istore 5, 2) := by decide +kernel
theorem dB_bring_9 : decode (xb yyB_bring) 9 = .ok (.aload_n 0, 1) := by decide +kernel
theorem dB_bring_10 : decode (xb yyB_bring) 10 = .ok (.getfield 14, 3) := by decide +kernel
theorem dB_bring_13 : decode (xb yyB_bring) 13 = .ok (.iload 5, 2) := by decide +kernel
theorem dB_bring_15 : decode (xb yyB_bring) 15 = .ok (.iconst 0, 1) := by decide +kernel
theorem dB_bring_16 : decode (xb yyB_bring) 16 = .ok (.iload_n 1, 1) := by decide +kernel
theorem dB_bring_17 : decode (xb yyB_bring) 17 = .ok (.invokevirtual 28, 3) := by decide +kernel
theorem dB_bring_20 : decode (xb yyB_bring) 20 = .ok (.aload_n 0, 1) := by decide +kernel
theorem dB_bring_21 : decode (xb yyB_bring) 21 = .ok (.getfield 14, 3) := by decide +kernel
theorem dB_bring_24 : decode (xb yyB_bring) 24 = .ok (.iload 5, 2) := by decide +kernel
theorem dB_bring_26 : decode (xb yyB_bring) 26 = .ok (.iconst 1, 1) := by decide +kernel
theorem dB_bring_27 : decode (xb yyB_bring) 27 = .ok (.iload_n 2, 1) := by decide +kernel
theorem dB_bring_28 : decode (xb yyB_bring) 28 = .ok (.invokevirtual 28, 3) := by decide +kernel
theorem dB_bring_31 : decode (xb yyB_bring) 31 = .ok (.aload_n 0, 1) := by decide +kernel
theorem dB_bring_32 : decode (xb yyB_bring) 32 = .ok (.getfield 14, 3) := by decide +kernel
theorem dB_bring_35 : decode (xb yyB_bring) 35 = .ok (.iload 5, 2) := by decide +kernel
theorem dB_bring_37 : decode (xb yyB_bring) 37 = .ok (.iconst 2, 1) := by decide +kernel
theorem dB_bring_38 : decode (xb yyB_bring) 38 = .ok (.iload_n 3, 1) := by decide +kernel
theorem dB_bring_39 : decode (xb yyB_bring) 39 = .ok (.invokevirtual 28, 3) := by decide +kernel
theorem dB_bring_42 : decode (xb yyB_bring) 42 = .ok (.aload_n 0, 1) := by decide +kernel
theorem dB_bring_43 : decode (xb yyB_bring) 43 = .ok (.getfield 14, 3) := by decide +kernel
theorem dB_bring_46 : decode (xb yyB_bring) 46 = .ok (.iload 5, 2) := by decide +kernel
theorem dB_bring_48 : decode (xb yyB_bring) 48 = .ok (.iconst 3, 1) := by decide +kernel
theorem dB_bring_49 : decode (xb yyB_bring) 49 = .ok (.iload 4, 2) := by decide +kernel
theorem dB_bring_51 : decode (xb yyB_bring) 51 = .ok (.invokevirtual 28, 3) := by decide +kernel
theorem dB_bring_54 : decode (xb yyB_bring) 54 = .ok (.aload_n 0, 1) := by decide +kernel
theorem dB_bring_55 : decode (xb yyB_bring) 55 = .ok (.getfield 14, 3) := by decide +kernel
theorem dB_bring_58 : decode (xb yyB_bring) 58 = .ok (.iload 5, 2) := by decide +kernel
theorem dB_bring_60 : decode (xb yyB_bring) 60 = .ok (.iconst 4, 1) := by decide +kernel
theorem dB_bring_61 : decode (xb yyB_bring) 61 = .ok (.iconst 0, 1) := by decide +kernel
theorem dB_bring_62 : decode (xb yyB_bring) 62 = .ok (.invokevirtual 28, 3) := by decide +kernel
theorem dB_bring_65 : decode (xb yyB_bring) 65 = .ok (.aload_n 0, 1) := by decide +kernel
theorem dB_bring_66 : decode (xb yyB_bring) 66 = .ok (.getfield 14, 3) := by decide +kernel
theorem dB_bring_69 : decode (xb yyB_bring) 69 = .ok (.iload 5, 2) := by decide +kernel
theorem dB_bring_71 : decode (xb yyB_bring) 71 = .ok (.iconst 5, 1) := by decide +kernel
theorem dB_bring_72 : decode (xb yyB_bring) 72 = .ok (.iconst (-1), 1) := by decide +kernel
theorem dB_bring_73 : decode (xb yyB_bring) 73 = .ok (.invokevirtual 28, 3) := by decide +kernel
theorem dB_bring_76 : decode (xb yyB_bring) 76 = .ok (.iload 5, 2) := by decide +kernel
theorem dB_bring_78 : decode (xb yyB_bring) 78 = .ok (.ireturn, 1) := by decide +kernel
def fB_bring (t : Nat) (v1 : Int32) (v2 : Int32) (v3 : Int32) (v4 : Int32) (m : xM) : Option (Int32 × xM) := (fT_newRow (xtb t) m).bind fun r4 => (fT_put (xtb t) r4.1 (0 : Int32) v1 r4.2).bind fun r17 => (fT_put (xtb t) r4.1 (1 : Int32) v2 r17).bind fun r28 => (fT_put (xtb t) r4.1 (2 : Int32) v3 r28).bind fun r39 => (fT_put (xtb t) r4.1 (3 : Int32) v4 r39).bind fun r51 => (fT_put (xtb t) r4.1 (4 : Int32) (0 : Int32) r51).bind fun r62 => (fT_put (xtb t) r4.1 (5 : Int32) (-1 : Int32) r62).bind fun r73 => some (r4.1, r73)
set_option maxRecDepth 100000 in
set_option maxHeartbeats 4000000 in
theorem kB_bring (G : xG) (t : Nat) (ht : t < 5) (z : xM) (m : xM) (v1 : Int32) (v2 : Int32) (v3 : Int32) (v4 : Int32) : ∀ a, fB_bring t v1 v2 v3 v4 m = some a → xCt G yyB_bring [.ref (xa G (72 + t)), .int v1, .int v2, .int v3, .int v4] (m, z) (some (.int a.1)) (a.2, z) := by
  refine xR_ct (em := (emic z)) rfl (Nat.le_of_ble_eq_true rfl) ?_
  show xR G yyB_bring _ 0 [(0, .ref (xa G (72 + t))), (1, .int v1), (2, .int v2), (3, .int v3), (4, .int v4)] [] _ _
  unfold fB_bring
  refine xR_aln 0 0 dB_bring_0 rfl rfl ?_
  refine xR_getf 1 xcf0 0 (72 + t) (by decide) (xk_B ht) (xC_brd ht) (v := .ref (xa G (36 + (xtb t)))) rfl fl_RX0_14 dB_bring_1 ?_
  refine xR_callVic 4 cv_T_newRow ml_RX0_43 ⟨Nat.le_of_ble_eq_true rfl, Nat.le_of_ble_eq_true rfl⟩ xcf3 rfl (36 + (xtb t)) (xk_T (xtb_lt ht)) (xC_tab (xtb_lt ht)) [] rfl rfl (Nat.le_of_ble_eq_true rfl) dB_bring_4 (kT_newRow G (xtb t) (xtb_lt ht) z m) (fun r4 => ?_)
  refine xR_is 7 ([(5, .int r4.1), (0, .ref (xa G (72 + t))), (1, .int v1), (2, .int v2), (3, .int v3), (4, .int v4)]) dB_bring_7 (by decide) rfl ?_
  refine xR_aln 9 1 dB_bring_9 rfl rfl ?_
  refine xR_getf 10 xcf0 0 (72 + t) (by decide) (xk_B ht) (xC_brd ht) (v := .ref (xa G (36 + (xtb t)))) rfl fl_RX0_14 dB_bring_10 ?_
  refine xR_il 13 0 dB_bring_13 rfl ?_
  refine xR_ic 15 (0 : Int32) dB_bring_15 (by decide) ?_
  refine xR_iln 16 2 dB_bring_16 rfl rfl ?_
  refine xR_callVvc 17 cv_T_put ml_RX0_28 ⟨Nat.le_of_ble_eq_true rfl, Nat.le_of_ble_eq_true rfl⟩ xcf3 rfl (36 + (xtb t)) (xk_T (xtb_lt ht)) (xC_tab (xtb_lt ht)) [.int r4.1, .int (0 : Int32), .int v1] rfl rfl (Nat.le_of_ble_eq_true rfl) dB_bring_17 (kT_put G (xtb t) (xtb_lt ht) z r4.2 r4.1 (0 : Int32) v1) (fun r17 => ?_)
  refine xR_aln 20 1 dB_bring_20 rfl rfl ?_
  refine xR_getf 21 xcf0 0 (72 + t) (by decide) (xk_B ht) (xC_brd ht) (v := .ref (xa G (36 + (xtb t)))) rfl fl_RX0_14 dB_bring_21 ?_
  refine xR_il 24 0 dB_bring_24 rfl ?_
  refine xR_ic 26 (1 : Int32) dB_bring_26 (by decide) ?_
  refine xR_iln 27 3 dB_bring_27 rfl rfl ?_
  refine xR_callVvc 28 cv_T_put ml_RX0_28 ⟨Nat.le_of_ble_eq_true rfl, Nat.le_of_ble_eq_true rfl⟩ xcf3 rfl (36 + (xtb t)) (xk_T (xtb_lt ht)) (xC_tab (xtb_lt ht)) [.int r4.1, .int (1 : Int32), .int v2] rfl rfl (Nat.le_of_ble_eq_true rfl) dB_bring_28 (kT_put G (xtb t) (xtb_lt ht) z r17 r4.1 (1 : Int32) v2) (fun r28 => ?_)
  refine xR_aln 31 1 dB_bring_31 rfl rfl ?_
  refine xR_getf 32 xcf0 0 (72 + t) (by decide) (xk_B ht) (xC_brd ht) (v := .ref (xa G (36 + (xtb t)))) rfl fl_RX0_14 dB_bring_32 ?_
  refine xR_il 35 0 dB_bring_35 rfl ?_
  refine xR_ic 37 (2 : Int32) dB_bring_37 (by decide) ?_
  refine xR_iln 38 4 dB_bring_38 rfl rfl ?_
  refine xR_callVvc 39 cv_T_put ml_RX0_28 ⟨Nat.le_of_ble_eq_true rfl, Nat.le_of_ble_eq_true rfl⟩ xcf3 rfl (36 + (xtb t)) (xk_T (xtb_lt ht)) (xC_tab (xtb_lt ht)) [.int r4.1, .int (2 : Int32), .int v3] rfl rfl (Nat.le_of_ble_eq_true rfl) dB_bring_39 (kT_put G (xtb t) (xtb_lt ht) z r28 r4.1 (2 : Int32) v3) (fun r39 => ?_)
  refine xR_aln 42 1 dB_bring_42 rfl rfl ?_
  refine xR_getf 43 xcf0 0 (72 + t) (by decide) (xk_B ht) (xC_brd ht) (v := .ref (xa G (36 + (xtb t)))) rfl fl_RX0_14 dB_bring_43 ?_
  refine xR_il 46 0 dB_bring_46 rfl ?_
  refine xR_ic 48 (3 : Int32) dB_bring_48 (by decide) ?_
  refine xR_il 49 5 dB_bring_49 rfl ?_
  refine xR_callVvc 51 cv_T_put ml_RX0_28 ⟨Nat.le_of_ble_eq_true rfl, Nat.le_of_ble_eq_true rfl⟩ xcf3 rfl (36 + (xtb t)) (xk_T (xtb_lt ht)) (xC_tab (xtb_lt ht)) [.int r4.1, .int (3 : Int32), .int v4] rfl rfl (Nat.le_of_ble_eq_true rfl) dB_bring_51 (kT_put G (xtb t) (xtb_lt ht) z r39 r4.1 (3 : Int32) v4) (fun r51 => ?_)
  refine xR_aln 54 1 dB_bring_54 rfl rfl ?_
  refine xR_getf 55 xcf0 0 (72 + t) (by decide) (xk_B ht) (xC_brd ht) (v := .ref (xa G (36 + (xtb t)))) rfl fl_RX0_14 dB_bring_55 ?_
  refine xR_il 58 0 dB_bring_58 rfl ?_
  refine xR_ic 60 (4 : Int32) dB_bring_60 (by decide) ?_
  refine xR_ic 61 (0 : Int32) dB_bring_61 (by decide) ?_
  refine xR_callVvc 62 cv_T_put ml_RX0_28 ⟨Nat.le_of_ble_eq_true rfl, Nat.le_of_ble_eq_true rfl⟩ xcf3 rfl (36 + (xtb t)) (xk_T (xtb_lt ht)) (xC_tab (xtb_lt ht)) [.int r4.1, .int (4 : Int32), .int (0 : Int32)] rfl rfl (Nat.le_of_ble_eq_true rfl) dB_bring_62 (kT_put G (xtb t) (xtb_lt ht) z r51 r4.1 (4 : Int32) (0 : Int32)) (fun r62 => ?_)
  refine xR_aln 65 1 dB_bring_65 rfl rfl ?_
  refine xR_getf 66 xcf0 0 (72 + t) (by decide) (xk_B ht) (xC_brd ht) (v := .ref (xa G (36 + (xtb t)))) rfl fl_RX0_14 dB_bring_66 ?_
  refine xR_il 69 0 dB_bring_69 rfl ?_
  refine xR_ic 71 (5 : Int32) dB_bring_71 (by decide) ?_
  refine xR_ic 72 (-1 : Int32) dB_bring_72 (by decide) ?_
  refine xR_callVvc 73 cv_T_put ml_RX0_28 ⟨Nat.le_of_ble_eq_true rfl, Nat.le_of_ble_eq_true rfl⟩ xcf3 rfl (36 + (xtb t)) (xk_T (xtb_lt ht)) (xC_tab (xtb_lt ht)) [.int r4.1, .int (5 : Int32), .int (-1 : Int32)] rfl rfl (Nat.le_of_ble_eq_true rfl) dB_bring_73 (kT_put G (xtb t) (xtb_lt ht) z r62 r4.1 (5 : Int32) (-1 : Int32)) (fun r73 => ?_)
  refine xR_il 76 0 dB_bring_76 rfl ?_
  exact xR_iret 78 rfl rfl dB_bring_78
theorem dB_has_0 : decode (xb yyB_has) 0 = .ok (.iload_n 1, 1) := by decide +kernel
theorem dB_has_1 : decode (xb yyB_has) 1 = .ok (.ifCond .lt 18, 3) := by decide +kernel
theorem dB_has_4 : decode (xb yyB_has) 4 = .ok (.iload_n 1, 1) := by decide +kernel
theorem dB_has_5 : decode (xb yyB_has) 5 = .ok (.aload_n 0, 1) := by decide +kernel
theorem dB_has_6 : decode (xb yyB_has) 6 = .ok (.getfield 14, 3) := by decide +kernel
theorem dB_has_9 : decode (xb yyB_has) 9 = .ok (.invokevirtual 20, 3) := by decide +kernel
theorem dB_has_12 : decode (xb yyB_has) 12 = .ok (.if_icmp .ge 7, 3) := by decide +kernel
theorem dB_has_15 : decode (xb yyB_has) 15 = .ok (.iconst 1, 1) := by decide +kernel
theorem dB_has_16 : decode (xb yyB_has) 16 = .ok (.goto 4, 3) := by decide +kernel
theorem dB_has_19 : decode (xb yyB_has) 19 = .ok (.iconst 0, 1) := by decide +kernel
theorem dB_has_20 : decode (xb yyB_has) 20 = .ok (.ireturn, 1) := by decide +kernel
def fB_has (t : Nat) (m : xM) (v1 : Int32) : Option (Int32) := (if v1 < 0 then some (xnb (0 : Int32)) else (fT_many (xtb t) m).bind fun r9 => (if r9 ≤ v1 then some (xnb (0 : Int32)) else some (xnb (1 : Int32))))
set_option maxRecDepth 100000 in
set_option maxHeartbeats 4000000 in
theorem kB_has (G : xG) (t : Nat) (ht : t < 5) (z : xM) (m : xM) (v1 : Int32) : ∀ a, fB_has t m v1 = some a → xCt G yyB_has [.ref (xa G (72 + t)), .int v1] (m, z) (some (.int a)) (m, z) := by
  refine xR_ct (em := (emi (m, z))) rfl (Nat.le_of_ble_eq_true rfl) ?_
  show xR G yyB_has _ 0 [(0, .ref (xa G (72 + t))), (1, .int v1)] [] _ _
  unfold fB_has
  refine xR_iln 0 1 dB_has_0 rfl rfl ?_
  refine xR_iflt 1 19 dB_has_1 (by decide) ?_ ?_
  · refine xR_ic 19 (0 : Int32) dB_has_19 (by decide) ?_
    exact xR_zret 20 rfl rfl dB_has_20
  · refine xR_iln 4 1 dB_has_4 rfl rfl ?_
    refine xR_aln 5 0 dB_has_5 rfl rfl ?_
    refine xR_getf 6 xcf0 0 (72 + t) (by decide) (xk_B ht) (xC_brd ht) (v := .ref (xa G (36 + (xtb t)))) rfl fl_RX0_14 dB_has_6 ?_
    refine xR_callVi 9 cv_T_many ml_RX0_20 ⟨Nat.le_of_ble_eq_true rfl, Nat.le_of_ble_eq_true rfl⟩ xcf3 rfl (36 + (xtb t)) (xk_T (xtb_lt ht)) (xC_tab (xtb_lt ht)) [] rfl rfl (Nat.le_of_ble_eq_true rfl) dB_has_9 (kT_many G (xtb t) (xtb_lt ht) z m) (fun r9 => ?_)
    refine xR_icge 12 19 dB_has_12 (by decide) ?_ ?_
    · refine xR_ic 19 (0 : Int32) dB_has_19 (by decide) ?_
      exact xR_zret 20 rfl rfl dB_has_20
    · refine xR_ic 15 (1 : Int32) dB_has_15 (by decide) ?_
      refine xR_goto 16 20 dB_has_16 (by decide) ?_
      exact xR_zret 20 rfl rfl dB_has_20
theorem dB_cell_0 : decode (xb yyB_cell) 0 = .ok (.aload_n 0, 1) := by decide +kernel
theorem dB_cell_1 : decode (xb yyB_cell) 1 = .ok (.getfield 14, 3) := by decide +kernel
theorem dB_cell_4 : decode (xb yyB_cell) 4 = .ok (.iload_n 1, 1) := by decide +kernel
theorem dB_cell_5 : decode (xb yyB_cell) 5 = .ok (.iload_n 2, 1) := by decide +kernel
theorem dB_cell_6 : decode (xb yyB_cell) 6 = .ok (.invokevirtual 24, 3) := by decide +kernel
theorem dB_cell_9 : decode (xb yyB_cell) 9 = .ok (.ireturn, 1) := by decide +kernel
def fB_cell (t : Nat) (m : xM) (v1 : Int32) (v2 : Int32) : Option (Int32) := (fT_get (xtb t) m v1 v2).bind fun r6 => some r6
set_option maxRecDepth 100000 in
set_option maxHeartbeats 4000000 in
theorem kB_cell (G : xG) (t : Nat) (ht : t < 5) (z : xM) (m : xM) (v1 : Int32) (v2 : Int32) : ∀ a, fB_cell t m v1 v2 = some a → xCt G yyB_cell [.ref (xa G (72 + t)), .int v1, .int v2] (m, z) (some (.int a)) (m, z) := by
  refine xR_ct (em := (emi (m, z))) rfl (Nat.le_of_ble_eq_true rfl) ?_
  show xR G yyB_cell _ 0 [(0, .ref (xa G (72 + t))), (1, .int v1), (2, .int v2)] [] _ _
  unfold fB_cell
  refine xR_aln 0 0 dB_cell_0 rfl rfl ?_
  refine xR_getf 1 xcf0 0 (72 + t) (by decide) (xk_B ht) (xC_brd ht) (v := .ref (xa G (36 + (xtb t)))) rfl fl_RX0_14 dB_cell_1 ?_
  refine xR_iln 4 1 dB_cell_4 rfl rfl ?_
  refine xR_iln 5 2 dB_cell_5 rfl rfl ?_
  refine xR_callVi 6 cv_T_get ml_RX0_24 ⟨Nat.le_of_ble_eq_true rfl, Nat.le_of_ble_eq_true rfl⟩ xcf3 rfl (36 + (xtb t)) (xk_T (xtb_lt ht)) (xC_tab (xtb_lt ht)) [.int v1, .int v2] rfl rfl (Nat.le_of_ble_eq_true rfl) dB_cell_6 (kT_get G (xtb t) (xtb_lt ht) z m v1 v2) (fun r6 => ?_)
  exact xR_iret 9 rfl rfl dB_cell_9
theorem dB_set_0 : decode (xb yyB_set) 0 = .ok (.aload_n 0, 1) := by decide +kernel
theorem dB_set_1 : decode (xb yyB_set) 1 = .ok (.getfield 14, 3) := by decide +kernel
theorem dB_set_4 : decode (xb yyB_set) 4 = .ok (.iload_n 1, 1) := by decide +kernel
theorem dB_set_5 : decode (xb yyB_set) 5 = .ok (.iload_n 2, 1) := by decide +kernel
theorem dB_set_6 : decode (xb yyB_set) 6 = .ok (.iload_n 3, 1) := by decide +kernel
theorem dB_set_7 : decode (xb yyB_set) 7 = .ok (.invokevirtual 28, 3) := by decide +kernel
theorem dB_set_10 : decode (xb yyB_set) 10 = .ok (.return_, 1) := by decide +kernel
def fB_set (t : Nat) (v1 : Int32) (v2 : Int32) (v3 : Int32) (m : xM) : Option (xM) := (fT_put (xtb t) v1 v2 v3 m).bind fun r7 => some r7
set_option maxRecDepth 100000 in
set_option maxHeartbeats 4000000 in
theorem kB_set (G : xG) (t : Nat) (ht : t < 5) (z : xM) (m : xM) (v1 : Int32) (v2 : Int32) (v3 : Int32) : ∀ a, fB_set t v1 v2 v3 m = some a → xCt G yyB_set [.ref (xa G (72 + t)), .int v1, .int v2, .int v3] (m, z) (none) (a, z) := by
  refine xR_ct (em := (emvc z)) rfl (Nat.le_of_ble_eq_true rfl) ?_
  show xR G yyB_set _ 0 [(0, .ref (xa G (72 + t))), (1, .int v1), (2, .int v2), (3, .int v3)] [] _ _
  unfold fB_set
  refine xR_aln 0 0 dB_set_0 rfl rfl ?_
  refine xR_getf 1 xcf0 0 (72 + t) (by decide) (xk_B ht) (xC_brd ht) (v := .ref (xa G (36 + (xtb t)))) rfl fl_RX0_14 dB_set_1 ?_
  refine xR_iln 4 1 dB_set_4 rfl rfl ?_
  refine xR_iln 5 2 dB_set_5 rfl rfl ?_
  refine xR_iln 6 3 dB_set_6 rfl rfl ?_
  refine xR_callVvc 7 cv_T_put ml_RX0_28 ⟨Nat.le_of_ble_eq_true rfl, Nat.le_of_ble_eq_true rfl⟩ xcf3 rfl (36 + (xtb t)) (xk_T (xtb_lt ht)) (xC_tab (xtb_lt ht)) [.int v1, .int v2, .int v3] rfl rfl (Nat.le_of_ble_eq_true rfl) dB_set_7 (kT_put G (xtb t) (xtb_lt ht) z m v1 v2 v3) (fun r7 => ?_)
  exact xR_vret 10 rfl rfl dB_set_10
theorem dB_isFree_0 : decode (xb yyB_isFree) 0 = .ok (.aload_n 0, 1) := by decide +kernel
theorem dB_isFree_1 : decode (xb yyB_isFree) 1 = .ok (.getfield 14, 3) := by decide +kernel
theorem dB_isFree_4 : decode (xb yyB_isFree) 4 = .ok (.iload_n 1, 1) := by decide +kernel
theorem dB_isFree_5 : decode (xb yyB_isFree) 5 = .ok (.iconst 5, 1) := by decide +kernel
theorem dB_isFree_6 : decode (xb yyB_isFree) 6 = .ok (.invokevirtual 24, 3) := by decide +kernel
theorem dB_isFree_9 : decode (xb yyB_isFree) 9 = .ok (.iconst (-1), 1) := by decide +kernel
theorem dB_isFree_10 : decode (xb yyB_isFree) 10 = .ok (.if_icmp .ne 7, 3) := by decide +kernel
theorem dB_isFree_13 : decode (xb yyB_isFree) 13 = .ok (.iconst 1, 1) := by decide +kernel
theorem dB_isFree_14 : decode (xb yyB_isFree) 14 = .ok (.goto 4, 3) := by decide +kernel
theorem dB_isFree_17 : decode (xb yyB_isFree) 17 = .ok (.iconst 0, 1) := by decide +kernel
theorem dB_isFree_18 : decode (xb yyB_isFree) 18 = .ok (.ireturn, 1) := by decide +kernel
def fB_isFree (t : Nat) (m : xM) (v1 : Int32) : Option (Int32) := (fT_get (xtb t) m v1 (5 : Int32)).bind fun r6 => (if r6 = (-1 : Int32) then some (xnb (1 : Int32)) else some (xnb (0 : Int32)))
set_option maxRecDepth 100000 in
set_option maxHeartbeats 4000000 in
theorem kB_isFree (G : xG) (t : Nat) (ht : t < 5) (z : xM) (m : xM) (v1 : Int32) : ∀ a, fB_isFree t m v1 = some a → xCt G yyB_isFree [.ref (xa G (72 + t)), .int v1] (m, z) (some (.int a)) (m, z) := by
  refine xR_ct (em := (emi (m, z))) rfl (Nat.le_of_ble_eq_true rfl) ?_
  show xR G yyB_isFree _ 0 [(0, .ref (xa G (72 + t))), (1, .int v1)] [] _ _
  unfold fB_isFree
  refine xR_aln 0 0 dB_isFree_0 rfl rfl ?_
  refine xR_getf 1 xcf0 0 (72 + t) (by decide) (xk_B ht) (xC_brd ht) (v := .ref (xa G (36 + (xtb t)))) rfl fl_RX0_14 dB_isFree_1 ?_
  refine xR_iln 4 1 dB_isFree_4 rfl rfl ?_
  refine xR_ic 5 (5 : Int32) dB_isFree_5 (by decide) ?_
  refine xR_callVi 6 cv_T_get ml_RX0_24 ⟨Nat.le_of_ble_eq_true rfl, Nat.le_of_ble_eq_true rfl⟩ xcf3 rfl (36 + (xtb t)) (xk_T (xtb_lt ht)) (xC_tab (xtb_lt ht)) [.int v1, .int (5 : Int32)] rfl rfl (Nat.le_of_ble_eq_true rfl) dB_isFree_6 (kT_get G (xtb t) (xtb_lt ht) z m v1 (5 : Int32)) (fun r6 => ?_)
  refine xR_ic 9 (-1 : Int32) dB_isFree_9 (by decide) ?_
  refine xR_icne 10 17 dB_isFree_10 (by decide) ?_ ?_
  · refine xR_ic 17 (0 : Int32) dB_isFree_17 (by decide) ?_
    exact xR_zret 18 rfl rfl dB_isFree_18
  · refine xR_ic 13 (1 : Int32) dB_isFree_13 (by decide) ?_
    refine xR_goto 14 18 dB_isFree_14 (by decide) ?_
    exact xR_zret 18 rfl rfl dB_isFree_18
theorem dB_maskIn_0 : decode (xb yyB_maskIn) 0 = .ok (.iconst 0, 1) := by decide +kernel
theorem dB_maskIn_1 : decode (xb yyB_maskIn) 1 = .ok (.istore_n 2, 1) := by decide +kernel
theorem dB_maskIn_2 : decode (xb yyB_maskIn) 2 = .ok (.iconst 0, 1) := by decide +kernel
theorem dB_maskIn_3 : decode (xb yyB_maskIn) 3 = .ok (.istore_n 3, 1) := by decide +kernel
theorem dB_maskIn_4 : decode (xb yyB_maskIn) 4 = .ok (.iload_n 3, 1) := by decide +kernel
theorem dB_maskIn_5 : decode (xb yyB_maskIn) 5 = .ok (.aload_n 0, 1) := by decide +kernel
theorem dB_maskIn_6 : decode (xb yyB_maskIn) 6 = .ok (.getfield 14, 3) := by decide +kernel
theorem dB_maskIn_9 : decode (xb yyB_maskIn) 9 = .ok (.invokevirtual 20, 3) := by decide +kernel
theorem dB_maskIn_12 : decode (xb yyB_maskIn) 12 = .ok (.if_icmp .ge 28, 3) := by decide +kernel
theorem dB_maskIn_15 : decode (xb yyB_maskIn) 15 = .ok (.aload_n 0, 1) := by decide +kernel
theorem dB_maskIn_16 : decode (xb yyB_maskIn) 16 = .ok (.getfield 14, 3) := by decide +kernel
theorem dB_maskIn_19 : decode (xb yyB_maskIn) 19 = .ok (.iload_n 3, 1) := by decide +kernel
theorem dB_maskIn_20 : decode (xb yyB_maskIn) 20 = .ok (.iconst 5, 1) := by decide +kernel
theorem dB_maskIn_21 : decode (xb yyB_maskIn) 21 = .ok (.invokevirtual 24, 3) := by decide +kernel
theorem dB_maskIn_24 : decode (xb yyB_maskIn) 24 = .ok (.iload_n 1, 1) := by decide +kernel
theorem dB_maskIn_25 : decode (xb yyB_maskIn) 25 = .ok (.if_icmp .ne 9, 3) := by decide +kernel
theorem dB_maskIn_28 : decode (xb yyB_maskIn) 28 = .ok (.iload_n 2, 1) := by decide +kernel
theorem dB_maskIn_29 : decode (xb yyB_maskIn) 29 = .ok (.iconst 1, 1) := by decide +kernel
theorem dB_maskIn_30 : decode (xb yyB_maskIn) 30 = .ok (.iload_n 3, 1) := by decide +kernel
theorem dB_maskIn_31 : decode (xb yyB_maskIn) 31 = .ok (.ishl, 1) := by decide +kernel
theorem dB_maskIn_32 : decode (xb yyB_maskIn) 32 = .ok (.ior, 1) := by decide +kernel
theorem dB_maskIn_33 : decode (xb yyB_maskIn) 33 = .ok (.istore_n 2, 1) := by decide +kernel
theorem dB_maskIn_34 : decode (xb yyB_maskIn) 34 = .ok (.iinc 3 1, 3) := by decide +kernel
theorem dB_maskIn_37 : decode (xb yyB_maskIn) 37 = .ok (.goto (-33), 3) := by decide +kernel
theorem dB_maskIn_40 : decode (xb yyB_maskIn) 40 = .ok (.iload_n 2, 1) := by decide +kernel
theorem dB_maskIn_41 : decode (xb yyB_maskIn) 41 = .ok (.ireturn, 1) := by decide +kernel
def fB_maskIn_b34 (t : Nat) (m : xM) (k4 : Int32 → Int32 → Int32 → Option (Int32)) (v1 : Int32) (v2 : Int32) (v3 : Int32) : Option (Int32) := k4 v1 v2 (v3 + 1)
def fB_maskIn_l4 (t : Nat) (m : xM) : Nat → Int32 → Int32 → Int32 → Option (Int32)
  | 0, _, _, _ => none
  | n + 1, v1, v2, v3 => (fT_many (xtb t) m).bind fun r9 => (if r9 ≤ v3 then some v2 else (fT_get (xtb t) m v3 (5 : Int32)).bind fun r21 => (if r21 = v1 then fB_maskIn_b34 t m (fB_maskIn_l4 t m n) v1 (v2 ||| ((1 : Int32) <<< (v3 &&& 31))) v3 else fB_maskIn_b34 t m (fB_maskIn_l4 t m n) v1 v2 v3))
def fB_maskIn (t : Nat) (m : xM) (v1 : Int32) : Option (Int32) := fB_maskIn_l4 t m xfu v1 (0 : Int32) (0 : Int32)
set_option maxRecDepth 100000 in
set_option maxHeartbeats 4000000 in
theorem kB_maskIn_b34 (G : xG) (t : Nat) (ht : t < 5) (z : xM) (m : xM) (k4 : Int32 → Int32 → Int32 → Option (Int32)) (hk4 : ∀ (v1 : Int32) (v2 : Int32) (v3 : Int32), xR G yyB_maskIn (emi (m, z)) 4 [(0, .ref (xa G (72 + t))), (1, .int v1), (2, .int v2), (3, .int v3)] [] (m, z) (k4 v1 v2 v3)) (v1 : Int32) (v2 : Int32) (v3 : Int32) : xR G yyB_maskIn (emi (m, z)) 34 [(0, .ref (xa G (72 + t))), (1, .int v1), (2, .int v2), (3, .int v3)] [] (m, z) (fB_maskIn_b34 t m k4 v1 v2 v3) := by
  unfold fB_maskIn_b34
  refine xR_iinc 34 3 (v3 + 1) ([(3, .int (v3 + 1)), (0, .ref (xa G (72 + t))), (1, .int v1), (2, .int v2)]) dB_maskIn_34 rfl rfl (by decide) rfl ?_
  refine xR_goto 37 4 dB_maskIn_37 (by decide) ?_
  exact xR_sub [1, 2, 3, 0] rfl (hk4 v1 v2 (v3 + 1))
set_option maxRecDepth 100000 in
set_option maxHeartbeats 4000000 in
theorem kB_maskIn_l4 (G : xG) (t : Nat) (ht : t < 5) (z : xM) (m : xM)   : ∀ (n : Nat) (v1 : Int32) (v2 : Int32) (v3 : Int32), xR G yyB_maskIn (emi (m, z)) 4 [(0, .ref (xa G (72 + t))), (1, .int v1), (2, .int v2), (3, .int v3)] [] (m, z) (fB_maskIn_l4 t m n v1 v2 v3) := by
  intro n
  induction n with
  | zero =>
    intro v1 v2 v3
    rw [fB_maskIn_l4]
    exact xR_none
  | succ n ih =>
    intro v1 v2 v3
    rw [fB_maskIn_l4]
    refine xR_iln 4 3 dB_maskIn_4 rfl rfl ?_
    refine xR_aln 5 0 dB_maskIn_5 rfl rfl ?_
    refine xR_getf 6 xcf0 0 (72 + t) (by decide) (xk_B ht) (xC_brd ht) (v := .ref (xa G (36 + (xtb t)))) rfl fl_RX0_14 dB_maskIn_6 ?_
    refine xR_callVi 9 cv_T_many ml_RX0_20 ⟨Nat.le_of_ble_eq_true rfl, Nat.le_of_ble_eq_true rfl⟩ xcf3 rfl (36 + (xtb t)) (xk_T (xtb_lt ht)) (xC_tab (xtb_lt ht)) [] rfl rfl (Nat.le_of_ble_eq_true rfl) dB_maskIn_9 (kT_many G (xtb t) (xtb_lt ht) z m) (fun r9 => ?_)
    refine xR_icge 12 40 dB_maskIn_12 (by decide) ?_ ?_
    · refine xR_iln 40 2 dB_maskIn_40 rfl rfl ?_
      exact xR_iret 41 rfl rfl dB_maskIn_41
    · refine xR_aln 15 0 dB_maskIn_15 rfl rfl ?_
      refine xR_getf 16 xcf0 0 (72 + t) (by decide) (xk_B ht) (xC_brd ht) (v := .ref (xa G (36 + (xtb t)))) rfl fl_RX0_14 dB_maskIn_16 ?_
      refine xR_iln 19 3 dB_maskIn_19 rfl rfl ?_
      refine xR_ic 20 (5 : Int32) dB_maskIn_20 (by decide) ?_
      refine xR_callVi 21 cv_T_get ml_RX0_24 ⟨Nat.le_of_ble_eq_true rfl, Nat.le_of_ble_eq_true rfl⟩ xcf3 rfl (36 + (xtb t)) (xk_T (xtb_lt ht)) (xC_tab (xtb_lt ht)) [.int v3, .int (5 : Int32)] rfl rfl (Nat.le_of_ble_eq_true rfl) dB_maskIn_21 (kT_get G (xtb t) (xtb_lt ht) z m v3 (5 : Int32)) (fun r21 => ?_)
      refine xR_iln 24 1 dB_maskIn_24 rfl rfl ?_
      refine xR_icne 25 34 dB_maskIn_25 (by decide) ?_ ?_
      · exact kB_maskIn_b34 G t ht z m (fB_maskIn_l4 t m n) ih v1 v2 v3
      · refine xR_iln 28 2 dB_maskIn_28 rfl rfl ?_
        refine xR_ic 29 (1 : Int32) dB_maskIn_29 (by decide) ?_
        refine xR_iln 30 3 dB_maskIn_30 rfl rfl ?_
        refine xR_ishl 31 dB_maskIn_31 ?_
        refine xR_ior 32 dB_maskIn_32 ?_
        refine xR_isn 33 ([(2, .int (v2 ||| ((1 : Int32) <<< (v3 &&& 31)))), (0, .ref (xa G (72 + t))), (1, .int v1), (3, .int v3)]) dB_maskIn_33 rfl (by decide) rfl ?_
        exact xR_sub [1, 2, 0, 3] rfl (kB_maskIn_b34 G t ht z m (fB_maskIn_l4 t m n) ih v1 (v2 ||| ((1 : Int32) <<< (v3 &&& 31))) v3)
set_option maxRecDepth 100000 in
set_option maxHeartbeats 4000000 in
theorem kB_maskIn (G : xG) (t : Nat) (ht : t < 5) (z : xM) (m : xM) (v1 : Int32) : ∀ a, fB_maskIn t m v1 = some a → xCt G yyB_maskIn [.ref (xa G (72 + t)), .int v1] (m, z) (some (.int a)) (m, z) := by
  refine xR_ct (em := (emi (m, z))) rfl (Nat.le_of_ble_eq_true rfl) ?_
  show xR G yyB_maskIn _ 0 [(0, .ref (xa G (72 + t))), (1, .int v1)] [] _ _
  unfold fB_maskIn
  refine xR_ic 0 (0 : Int32) dB_maskIn_0 (by decide) ?_
  refine xR_isn 1 ([(2, .int (0 : Int32)), (0, .ref (xa G (72 + t))), (1, .int v1)]) dB_maskIn_1 rfl (by decide) rfl ?_
  refine xR_ic 2 (0 : Int32) dB_maskIn_2 (by decide) ?_
  refine xR_isn 3 ([(3, .int (0 : Int32)), (2, .int (0 : Int32)), (0, .ref (xa G (72 + t))), (1, .int v1)]) dB_maskIn_3 rfl (by decide) rfl ?_
  exact xR_sub [2, 3, 1, 0] rfl (kB_maskIn_l4 G t ht z m xfu v1 (0 : Int32) (0 : Int32))
theorem dB_manyIn_0 : decode (xb yyB_manyIn) 0 = .ok (.aload_n 0, 1) := by decide +kernel
theorem dB_manyIn_1 : decode (xb yyB_manyIn) 1 = .ok (.iload_n 1, 1) := by decide +kernel
theorem dB_manyIn_2 : decode (xb yyB_manyIn) 2 = .ok (.invokevirtual 46, 3) := by decide +kernel
theorem dB_manyIn_5 : decode (xb yyB_manyIn) 5 = .ok (.invokestatic 50, 3) := by decide +kernel
theorem dB_manyIn_8 : decode (xb yyB_manyIn) 8 = .ok (.ireturn, 1) := by decide +kernel
def fB_manyIn (t : Nat) (m : xM) (v1 : Int32) : Option (Int32) := (fB_maskIn t m v1).bind fun r2 => (fJ_bitCount r2).bind fun r5 => some r5
set_option maxRecDepth 100000 in
set_option maxHeartbeats 4000000 in
theorem kB_manyIn (G : xG) (t : Nat) (ht : t < 5) (z : xM) (m : xM) (v1 : Int32) : ∀ a, fB_manyIn t m v1 = some a → xCt G yyB_manyIn [.ref (xa G (72 + t)), .int v1] (m, z) (some (.int a)) (m, z) := by
  refine xR_ct (em := (emi (m, z))) rfl (Nat.le_of_ble_eq_true rfl) ?_
  show xR G yyB_manyIn _ 0 [(0, .ref (xa G (72 + t))), (1, .int v1)] [] _ _
  unfold fB_manyIn
  refine xR_aln 0 0 dB_manyIn_0 rfl rfl ?_
  refine xR_iln 1 1 dB_manyIn_1 rfl rfl ?_
  refine xR_callVi 2 cv_B_maskIn ml_RX0_46 ⟨Nat.le_of_ble_eq_true rfl, Nat.le_of_ble_eq_true rfl⟩ xcf0 rfl (72 + t) (xk_B ht) (xC_brd ht) [.int v1] rfl rfl (Nat.le_of_ble_eq_true rfl) dB_manyIn_2 (kB_maskIn G t ht z m v1) (fun r2 => ?_)
  refine xR_callSi 5 cs_J_bitCount ml_RX0_50 ⟨Nat.le_of_ble_eq_true rfl, Nat.le_of_ble_eq_true rfl⟩ [.int r2] rfl rfl (Nat.le_of_ble_eq_true rfl) dB_manyIn_5 (kJ_bitCount G (m, z) r2) (fun r5 => ?_)
  exact xR_iret 8 rfl rfl dB_manyIn_8
theorem dB_wormyNext_0 : decode (xb yyB_wormyNext) 0 = .ok (.iconst 0, 1) := by decide +kernel
theorem dB_wormyNext_1 : decode (xb yyB_wormyNext) 1 = .ok (.istore_n 1, 1) := by decide +kernel
theorem dB_wormyNext_2 : decode (xb yyB_wormyNext) 2 = .ok (.iconst 0, 1) := by decide +kernel
theorem dB_wormyNext_3 : decode (xb yyB_wormyNext) 3 = .ok (.istore_n 2, 1) := by decide +kernel
theorem dB_wormyNext_4 : decode (xb yyB_wormyNext) 4 = .ok (.iload_n 2, 1) := by decide +kernel
theorem dB_wormyNext_5 : decode (xb yyB_wormyNext) 5 = .ok (.aload_n 0, 1) := by decide +kernel
theorem dB_wormyNext_6 : decode (xb yyB_wormyNext) 6 = .ok (.getfield 14, 3) := by decide +kernel
theorem dB_wormyNext_9 : decode (xb yyB_wormyNext) 9 = .ok (.invokevirtual 20, 3) := by decide +kernel
theorem dB_wormyNext_12 : decode (xb yyB_wormyNext) 12 = .ok (.if_icmp .ge 133, 3) := by decide +kernel
theorem dB_wormyNext_15 : decode (xb yyB_wormyNext) 15 = .ok (.aload_n 0, 1) := by decide +kernel
theorem dB_wormyNext_16 : decode (xb yyB_wormyNext) 16 = .ok (.getfield 14, 3) := by decide +kernel
theorem dB_wormyNext_19 : decode (xb yyB_wormyNext) 19 = .ok (.iload_n 2, 1) := by decide +kernel
theorem dB_wormyNext_20 : decode (xb yyB_wormyNext) 20 = .ok (.iconst 4, 1) := by decide +kernel
theorem dB_wormyNext_21 : decode (xb yyB_wormyNext) 21 = .ok (.invokevirtual 24, 3) := by decide +kernel
theorem dB_wormyNext_24 : decode (xb yyB_wormyNext) 24 = .ok (.iconst 1, 1) := by decide +kernel
theorem dB_wormyNext_25 : decode (xb yyB_wormyNext) 25 = .ok (.if_icmp .ne 114, 3) := by decide +kernel
theorem dB_wormyNext_28 : decode (xb yyB_wormyNext) 28 = .ok (.iload_n 2, 1) := by decide +kernel
theorem dB_wormyNext_29 : decode (xb yyB_wormyNext) 29 = .ok (.ifCond .le 30, 3) := by decide +kernel
theorem dB_wormyNext_32 : decode (xb yyB_wormyNext) 32 = .ok (.aload_n 0, 1) := by decide +kernel
theorem dB_wormyNext_33 : decode (xb yyB_wormyNext) 33 = .ok (.getfield 14, 3) := by decide +kernel
theorem dB_wormyNext_36 : decode (xb yyB_wormyNext) 36 = .ok (.iload_n 2, 1) := by decide +kernel
theorem dB_wormyNext_37 : decode (xb yyB_wormyNext) 37 = .ok (.iconst 1, 1) := by decide +kernel
theorem dB_wormyNext_38 : decode (xb yyB_wormyNext) 38 = .ok (.isub, 1) := by decide +kernel
theorem dB_wormyNext_39 : decode (xb yyB_wormyNext) 39 = .ok (.iconst 5, 1) := by decide +kernel
theorem dB_wormyNext_40 : decode (xb yyB_wormyNext) 40 = .ok (.invokevirtual 24, 3) := by decide +kernel
theorem dB_wormyNext_43 : decode (xb yyB_wormyNext) 43 = .ok (.aload_n 0, 1) := by decide +kernel
theorem dB_wormyNext_44 : decode (xb yyB_wormyNext) 44 = .ok (.getfield 14, 3) := by decide +kernel
theorem dB_wormyNext_47 : decode (xb yyB_wormyNext) 47 = .ok (.iload_n 2, 1) := by decide +kernel
theorem dB_wormyNext_48 : decode (xb yyB_wormyNext) 48 = .ok (.iconst 5, 1) := by decide +kernel
theorem dB_wormyNext_49 : decode (xb yyB_wormyNext) 49 = .ok (.invokevirtual 24, 3) := by decide +kernel
theorem dB_wormyNext_52 : decode (xb yyB_wormyNext) 52 = .ok (.if_icmp .ne 7, 3) := by decide +kernel
theorem dB_wormyNext_55 : decode (xb yyB_wormyNext) 55 = .ok (.iconst 1, 1) := by decide +kernel
theorem dB_wormyNext_56 : decode (xb yyB_wormyNext) 56 = .ok (.goto 4, 3) := by decide +kernel
theorem dB_wormyNext_59 : decode (xb yyB_wormyNext) 59 = .ok (.iconst 0, 1) := by decide +kernel
theorem dB_wormyNext_60 : decode (xb yyB_wormyNext) 60 = .ok (.istore_n 3, 1) := by decide +kernel
theorem dB_wormyNext_61 : decode (xb yyB_wormyNext) 61 = .ok (.iload_n 2, 1) := by decide +kernel
theorem dB_wormyNext_62 : decode (xb yyB_wormyNext) 62 = .ok (.iconst 1, 1) := by decide +kernel
theorem dB_wormyNext_63 : decode (xb yyB_wormyNext) 63 = .ok (.iadd, 1) := by decide +kernel
theorem dB_wormyNext_64 : decode (xb yyB_wormyNext) 64 = .ok (.aload_n 0, 1) := by decide +kernel
theorem dB_wormyNext_65 : decode (xb yyB_wormyNext) 65 = .ok (.getfield 14, 3) := by decide +kernel
theorem dB_wormyNext_68 : decode (xb yyB_wormyNext) 68 = .ok (.invokevirtual 20, 3) := by decide +kernel
theorem dB_wormyNext_71 : decode (xb yyB_wormyNext) 71 = .ok (.if_icmp .ge 30, 3) := by decide +kernel
theorem dB_wormyNext_74 : decode (xb yyB_wormyNext) 74 = .ok (.aload_n 0, 1) := by decide +kernel
theorem dB_wormyNext_75 : decode (xb yyB_wormyNext) 75 = .ok (.getfield 14, 3) := by decide +kernel
theorem dB_wormyNext_78 : decode (xb yyB_wormyNext) 78 = .ok (.iload_n 2, 1) := by decide +kernel
theorem dB_wormyNext_79 : decode (xb yyB_wormyNext) 79 = .ok (.iconst 1, 1) := by decide +kernel
theorem dB_wormyNext_80 : decode (xb yyB_wormyNext) 80 = .ok (.iadd, 1) := by decide +kernel
theorem dB_wormyNext_81 : decode (xb yyB_wormyNext) 81 = .ok (.iconst 5, 1) := by decide +kernel
theorem dB_wormyNext_82 : decode (xb yyB_wormyNext) 82 = .ok (.invokevirtual 24, 3) := by decide +kernel
theorem dB_wormyNext_85 : decode (xb yyB_wormyNext) 85 = .ok (.aload_n 0, 1) := by decide +kernel
theorem dB_wormyNext_86 : decode (xb yyB_wormyNext) 86 = .ok (.getfield 14, 3) := by decide +kernel
theorem dB_wormyNext_89 : decode (xb yyB_wormyNext) 89 = .ok (.iload_n 2, 1) := by decide +kernel
theorem dB_wormyNext_90 : decode (xb yyB_wormyNext) 90 = .ok (.iconst 5, 1) := by decide +kernel
theorem dB_wormyNext_91 : decode (xb yyB_wormyNext) 91 = .ok (.invokevirtual 24, 3) := by decide +kernel
theorem dB_wormyNext_94 : decode (xb yyB_wormyNext) 94 = .ok (.if_icmp .ne 7, 3) := by decide +kernel
theorem dB_wormyNext_97 : decode (xb yyB_wormyNext) 97 = .ok (.iconst 1, 1) := by decide +kernel
theorem dB_wormyNext_98 : decode (xb yyB_wormyNext) 98 = .ok (.goto 4, 3) := by decide +kernel
theorem dB_wormyNext_101 : decode (xb yyB_wormyNext) 101 = .ok (.iconst 0, 1) := by decide +kernel
theorem dB_wormyNext_102 : decode (xb yyB_wormyNext) 102 = .ok (.istore 4, 2) := by decide +kernel
theorem dB_wormyNext_104 : decode (xb yyB_wormyNext) 104 = .ok (.iload_n 1, 1) := by decide +kernel
theorem dB_wormyNext_105 : decode (xb yyB_wormyNext) 105 = .ok (.iconst 1, 1) := by decide +kernel
theorem dB_wormyNext_106 : decode (xb yyB_wormyNext) 106 = .ok (.iload_n 2, 1) := by decide +kernel
theorem dB_wormyNext_107 : decode (xb yyB_wormyNext) 107 = .ok (.ishl, 1) := by decide +kernel
theorem dB_wormyNext_108 : decode (xb yyB_wormyNext) 108 = .ok (.iload_n 3, 1) := by decide +kernel
theorem dB_wormyNext_109 : decode (xb yyB_wormyNext) 109 = .ok (.ifCond .eq 11, 3) := by decide +kernel
theorem dB_wormyNext_112 : decode (xb yyB_wormyNext) 112 = .ok (.iconst 1, 1) := by decide +kernel
theorem dB_wormyNext_113 : decode (xb yyB_wormyNext) 113 = .ok (.iload_n 2, 1) := by decide +kernel
theorem dB_wormyNext_114 : decode (xb yyB_wormyNext) 114 = .ok (.iconst 1, 1) := by decide +kernel
theorem dB_wormyNext_115 : decode (xb yyB_wormyNext) 115 = .ok (.isub, 1) := by decide +kernel
theorem dB_wormyNext_116 : decode (xb yyB_wormyNext) 116 = .ok (.ishl, 1) := by decide +kernel
theorem dB_wormyNext_117 : decode (xb yyB_wormyNext) 117 = .ok (.goto 4, 3) := by decide +kernel
theorem dB_wormyNext_120 : decode (xb yyB_wormyNext) 120 = .ok (.iconst 0, 1) := by decide +kernel
theorem dB_wormyNext_121 : decode (xb yyB_wormyNext) 121 = .ok (.ior, 1) := by decide +kernel
theorem dB_wormyNext_122 : decode (xb yyB_wormyNext) 122 = .ok (.iload 4, 2) := by decide +kernel
theorem dB_wormyNext_124 : decode (xb yyB_wormyNext) 124 = .ok (.ifCond .eq 11, 3) := by decide +kernel
theorem dB_wormyNext_127 : decode (xb yyB_wormyNext) 127 = .ok (.iconst 1, 1) := by decide +kernel
theorem dB_wormyNext_128 : decode (xb yyB_wormyNext) 128 = .ok (.iload_n 2, 1) := by decide +kernel
theorem dB_wormyNext_129 : decode (xb yyB_wormyNext) 129 = .ok (.iconst 1, 1) := by decide +kernel
theorem dB_wormyNext_130 : decode (xb yyB_wormyNext) 130 = .ok (.iadd, 1) := by decide +kernel
theorem dB_wormyNext_131 : decode (xb yyB_wormyNext) 131 = .ok (.ishl, 1) := by decide +kernel
theorem dB_wormyNext_132 : decode (xb yyB_wormyNext) 132 = .ok (.goto 4, 3) := by decide +kernel
theorem dB_wormyNext_135 : decode (xb yyB_wormyNext) 135 = .ok (.iconst 0, 1) := by decide +kernel
theorem dB_wormyNext_136 : decode (xb yyB_wormyNext) 136 = .ok (.ior, 1) := by decide +kernel
theorem dB_wormyNext_137 : decode (xb yyB_wormyNext) 137 = .ok (.ior, 1) := by decide +kernel
theorem dB_wormyNext_138 : decode (xb yyB_wormyNext) 138 = .ok (.istore_n 1, 1) := by decide +kernel
theorem dB_wormyNext_139 : decode (xb yyB_wormyNext) 139 = .ok (.iinc 2 1, 3) := by decide +kernel
theorem dB_wormyNext_142 : decode (xb yyB_wormyNext) 142 = .ok (.goto (-138), 3) := by decide +kernel
theorem dB_wormyNext_145 : decode (xb yyB_wormyNext) 145 = .ok (.iload_n 1, 1) := by decide +kernel
theorem dB_wormyNext_146 : decode (xb yyB_wormyNext) 146 = .ok (.ireturn, 1) := by decide +kernel
def fB_wormyNext_b139 (t : Nat) (m : xM) (k4 : Int32 → Int32 → Option (Int32)) (v1 : Int32) (v2 : Int32) : Option (Int32) := k4 v1 (v2 + 1)
def fB_wormyNext_b136 (t : Nat) (m : xM) (k4 : Int32 → Int32 → Option (Int32)) (v2 : Int32) (s0 : Int32) (s1 : Int32) (s2 : Int32) : Option (Int32) := fB_wormyNext_b139 t m k4 (s2 ||| (s1 ||| s0)) v2
def fB_wormyNext_b121 (t : Nat) (m : xM) (k4 : Int32 → Int32 → Option (Int32)) (v2 : Int32) (v4 : Int32) (s0 : Int32) (s1 : Int32) (s2 : Int32) : Option (Int32) := (if v4 = 0 then fB_wormyNext_b136 t m k4 v2 (0 : Int32) (s1 ||| s0) s2 else fB_wormyNext_b136 t m k4 v2 ((1 : Int32) <<< ((v2 + (1 : Int32)) &&& 31)) (s1 ||| s0) s2)
def fB_wormyNext_b102 (t : Nat) (m : xM) (k4 : Int32 → Int32 → Option (Int32)) (v1 : Int32) (v2 : Int32) (v3 : Int32) (s0 : Int32) : Option (Int32) := (if v3 = 0 then fB_wormyNext_b121 t m k4 v2 s0 (0 : Int32) ((1 : Int32) <<< (v2 &&& 31)) v1 else fB_wormyNext_b121 t m k4 v2 s0 ((1 : Int32) <<< ((v2 - (1 : Int32)) &&& 31)) ((1 : Int32) <<< (v2 &&& 31)) v1)
def fB_wormyNext_b101 (t : Nat) (m : xM) (k4 : Int32 → Int32 → Option (Int32)) (v1 : Int32) (v2 : Int32) (v3 : Int32) : Option (Int32) := fB_wormyNext_b102 t m k4 v1 v2 v3 (0 : Int32)
def fB_wormyNext_b60 (t : Nat) (m : xM) (k4 : Int32 → Int32 → Option (Int32)) (v1 : Int32) (v2 : Int32) (s0 : Int32) : Option (Int32) := (fT_many (xtb t) m).bind fun r68 => (if r68 ≤ (v2 + (1 : Int32)) then fB_wormyNext_b101 t m k4 v1 v2 s0 else (fT_get (xtb t) m (v2 + (1 : Int32)) (5 : Int32)).bind fun r82 => (fT_get (xtb t) m v2 (5 : Int32)).bind fun r91 => (if r82 = r91 then fB_wormyNext_b102 t m k4 v1 v2 s0 (1 : Int32) else fB_wormyNext_b101 t m k4 v1 v2 s0))
def fB_wormyNext_b59 (t : Nat) (m : xM) (k4 : Int32 → Int32 → Option (Int32)) (v1 : Int32) (v2 : Int32) : Option (Int32) := fB_wormyNext_b60 t m k4 v1 v2 (0 : Int32)
def fB_wormyNext_l4 (t : Nat) (m : xM) : Nat → Int32 → Int32 → Option (Int32)
  | 0, _, _ => none
  | n + 1, v1, v2 => (fT_many (xtb t) m).bind fun r9 => (if r9 ≤ v2 then some v1 else (fT_get (xtb t) m v2 (4 : Int32)).bind fun r21 => (if r21 = (1 : Int32) then (if v2 ≤ 0 then fB_wormyNext_b59 t m (fB_wormyNext_l4 t m n) v1 v2 else (fT_get (xtb t) m (v2 - (1 : Int32)) (5 : Int32)).bind fun r40 => (fT_get (xtb t) m v2 (5 : Int32)).bind fun r49 => (if r40 = r49 then fB_wormyNext_b60 t m (fB_wormyNext_l4 t m n) v1 v2 (1 : Int32) else fB_wormyNext_b59 t m (fB_wormyNext_l4 t m n) v1 v2)) else fB_wormyNext_b139 t m (fB_wormyNext_l4 t m n) v1 v2))
def fB_wormyNext (t : Nat) (m : xM) : Option (Int32) := fB_wormyNext_l4 t m xfu (0 : Int32) (0 : Int32)
set_option maxRecDepth 100000 in
set_option maxHeartbeats 4000000 in
theorem kB_wormyNext_b139 (G : xG) (t : Nat) (ht : t < 5) (z : xM) (m : xM) (k4 : Int32 → Int32 → Option (Int32)) (hk4 : ∀ (v1 : Int32) (v2 : Int32), xR G yyB_wormyNext (emi (m, z)) 4 [(0, .ref (xa G (72 + t))), (1, .int v1), (2, .int v2)] [] (m, z) (k4 v1 v2)) (v1 : Int32) (v2 : Int32) : xR G yyB_wormyNext (emi (m, z)) 139 [(0, .ref (xa G (72 + t))), (1, .int v1), (2, .int v2)] [] (m, z) (fB_wormyNext_b139 t m k4 v1 v2) := by
  unfold fB_wormyNext_b139
  refine xR_iinc 139 2 (v2 + 1) ([(2, .int (v2 + 1)), (0, .ref (xa G (72 + t))), (1, .int v1)]) dB_wormyNext_139 rfl rfl (by decide) rfl ?_
  refine xR_goto 142 4 dB_wormyNext_142 (by decide) ?_
  exact xR_sub [1, 2, 0] rfl (hk4 v1 (v2 + 1))
set_option maxRecDepth 100000 in
set_option maxHeartbeats 4000000 in
theorem kB_wormyNext_b136 (G : xG) (t : Nat) (ht : t < 5) (z : xM) (m : xM) (k4 : Int32 → Int32 → Option (Int32)) (hk4 : ∀ (v1 : Int32) (v2 : Int32), xR G yyB_wormyNext (emi (m, z)) 4 [(0, .ref (xa G (72 + t))), (1, .int v1), (2, .int v2)] [] (m, z) (k4 v1 v2)) (v2 : Int32) (s0 : Int32) (s1 : Int32) (s2 : Int32) : xR G yyB_wormyNext (emi (m, z)) 136 [(0, .ref (xa G (72 + t))), (2, .int v2)] [.int s0, .int s1, .int s2] (m, z) (fB_wormyNext_b136 t m k4 v2 s0 s1 s2) := by
  unfold fB_wormyNext_b136
  refine xR_ior 136 dB_wormyNext_136 ?_
  refine xR_ior 137 dB_wormyNext_137 ?_
  refine xR_isn 138 ([(1, .int (s2 ||| (s1 ||| s0))), (0, .ref (xa G (72 + t))), (2, .int v2)]) dB_wormyNext_138 rfl (by decide) rfl ?_
  exact xR_sub [1, 0, 2] rfl (kB_wormyNext_b139 G t ht z m k4 hk4 (s2 ||| (s1 ||| s0)) v2)
set_option maxRecDepth 100000 in
set_option maxHeartbeats 4000000 in
theorem kB_wormyNext_b121 (G : xG) (t : Nat) (ht : t < 5) (z : xM) (m : xM) (k4 : Int32 → Int32 → Option (Int32)) (hk4 : ∀ (v1 : Int32) (v2 : Int32), xR G yyB_wormyNext (emi (m, z)) 4 [(0, .ref (xa G (72 + t))), (1, .int v1), (2, .int v2)] [] (m, z) (k4 v1 v2)) (v2 : Int32) (v4 : Int32) (s0 : Int32) (s1 : Int32) (s2 : Int32) : xR G yyB_wormyNext (emi (m, z)) 121 [(0, .ref (xa G (72 + t))), (2, .int v2), (4, .int v4)] [.int s0, .int s1, .int s2] (m, z) (fB_wormyNext_b121 t m k4 v2 v4 s0 s1 s2) := by
  unfold fB_wormyNext_b121
  refine xR_ior 121 dB_wormyNext_121 ?_
  refine xR_il 122 2 dB_wormyNext_122 rfl ?_
  refine xR_ifeq 124 135 dB_wormyNext_124 (by decide) ?_ ?_
  · refine xR_ic 135 (0 : Int32) dB_wormyNext_135 (by decide) ?_
    exact xR_sub [0, 1] rfl (kB_wormyNext_b136 G t ht z m k4 hk4 v2 (0 : Int32) (s1 ||| s0) s2)
  · refine xR_ic 127 (1 : Int32) dB_wormyNext_127 (by decide) ?_
    refine xR_iln 128 1 dB_wormyNext_128 rfl rfl ?_
    refine xR_ic 129 (1 : Int32) dB_wormyNext_129 (by decide) ?_
    refine xR_iadd 130 dB_wormyNext_130 ?_
    refine xR_ishl 131 dB_wormyNext_131 ?_
    refine xR_goto 132 136 dB_wormyNext_132 (by decide) ?_
    exact xR_sub [0, 1] rfl (kB_wormyNext_b136 G t ht z m k4 hk4 v2 ((1 : Int32) <<< ((v2 + (1 : Int32)) &&& 31)) (s1 ||| s0) s2)
set_option maxRecDepth 100000 in
set_option maxHeartbeats 4000000 in
theorem kB_wormyNext_b102 (G : xG) (t : Nat) (ht : t < 5) (z : xM) (m : xM) (k4 : Int32 → Int32 → Option (Int32)) (hk4 : ∀ (v1 : Int32) (v2 : Int32), xR G yyB_wormyNext (emi (m, z)) 4 [(0, .ref (xa G (72 + t))), (1, .int v1), (2, .int v2)] [] (m, z) (k4 v1 v2)) (v1 : Int32) (v2 : Int32) (v3 : Int32) (s0 : Int32) : xR G yyB_wormyNext (emi (m, z)) 102 [(0, .ref (xa G (72 + t))), (1, .int v1), (2, .int v2), (3, .int v3)] [.int s0] (m, z) (fB_wormyNext_b102 t m k4 v1 v2 v3 s0) := by
  unfold fB_wormyNext_b102
  refine xR_is 102 ([(4, .int s0), (0, .ref (xa G (72 + t))), (1, .int v1), (2, .int v2), (3, .int v3)]) dB_wormyNext_102 (by decide) rfl ?_
  refine xR_iln 104 2 dB_wormyNext_104 rfl rfl ?_
  refine xR_ic 105 (1 : Int32) dB_wormyNext_105 (by decide) ?_
  refine xR_iln 106 3 dB_wormyNext_106 rfl rfl ?_
  refine xR_ishl 107 dB_wormyNext_107 ?_
  refine xR_iln 108 4 dB_wormyNext_108 rfl rfl ?_
  refine xR_ifeq 109 120 dB_wormyNext_109 (by decide) ?_ ?_
  · refine xR_ic 120 (0 : Int32) dB_wormyNext_120 (by decide) ?_
    exact xR_sub [1, 3, 0] rfl (kB_wormyNext_b121 G t ht z m k4 hk4 v2 s0 (0 : Int32) ((1 : Int32) <<< (v2 &&& 31)) v1)
  · refine xR_ic 112 (1 : Int32) dB_wormyNext_112 (by decide) ?_
    refine xR_iln 113 3 dB_wormyNext_113 rfl rfl ?_
    refine xR_ic 114 (1 : Int32) dB_wormyNext_114 (by decide) ?_
    refine xR_isub 115 dB_wormyNext_115 ?_
    refine xR_ishl 116 dB_wormyNext_116 ?_
    refine xR_goto 117 121 dB_wormyNext_117 (by decide) ?_
    exact xR_sub [1, 3, 0] rfl (kB_wormyNext_b121 G t ht z m k4 hk4 v2 s0 ((1 : Int32) <<< ((v2 - (1 : Int32)) &&& 31)) ((1 : Int32) <<< (v2 &&& 31)) v1)
set_option maxRecDepth 100000 in
set_option maxHeartbeats 4000000 in
theorem kB_wormyNext_b101 (G : xG) (t : Nat) (ht : t < 5) (z : xM) (m : xM) (k4 : Int32 → Int32 → Option (Int32)) (hk4 : ∀ (v1 : Int32) (v2 : Int32), xR G yyB_wormyNext (emi (m, z)) 4 [(0, .ref (xa G (72 + t))), (1, .int v1), (2, .int v2)] [] (m, z) (k4 v1 v2)) (v1 : Int32) (v2 : Int32) (v3 : Int32) : xR G yyB_wormyNext (emi (m, z)) 101 [(0, .ref (xa G (72 + t))), (1, .int v1), (2, .int v2), (3, .int v3)] [] (m, z) (fB_wormyNext_b101 t m k4 v1 v2 v3) := by
  unfold fB_wormyNext_b101
  refine xR_ic 101 (0 : Int32) dB_wormyNext_101 (by decide) ?_
  exact kB_wormyNext_b102 G t ht z m k4 hk4 v1 v2 v3 (0 : Int32)
set_option maxRecDepth 100000 in
set_option maxHeartbeats 4000000 in
theorem kB_wormyNext_b60 (G : xG) (t : Nat) (ht : t < 5) (z : xM) (m : xM) (k4 : Int32 → Int32 → Option (Int32)) (hk4 : ∀ (v1 : Int32) (v2 : Int32), xR G yyB_wormyNext (emi (m, z)) 4 [(0, .ref (xa G (72 + t))), (1, .int v1), (2, .int v2)] [] (m, z) (k4 v1 v2)) (v1 : Int32) (v2 : Int32) (s0 : Int32) : xR G yyB_wormyNext (emi (m, z)) 60 [(0, .ref (xa G (72 + t))), (1, .int v1), (2, .int v2)] [.int s0] (m, z) (fB_wormyNext_b60 t m k4 v1 v2 s0) := by
  unfold fB_wormyNext_b60
  refine xR_isn 60 ([(3, .int s0), (0, .ref (xa G (72 + t))), (1, .int v1), (2, .int v2)]) dB_wormyNext_60 rfl (by decide) rfl ?_
  refine xR_iln 61 3 dB_wormyNext_61 rfl rfl ?_
  refine xR_ic 62 (1 : Int32) dB_wormyNext_62 (by decide) ?_
  refine xR_iadd 63 dB_wormyNext_63 ?_
  refine xR_aln 64 1 dB_wormyNext_64 rfl rfl ?_
  refine xR_getf 65 xcf0 0 (72 + t) (by decide) (xk_B ht) (xC_brd ht) (v := .ref (xa G (36 + (xtb t)))) rfl fl_RX0_14 dB_wormyNext_65 ?_
  refine xR_callVi 68 cv_T_many ml_RX0_20 ⟨Nat.le_of_ble_eq_true rfl, Nat.le_of_ble_eq_true rfl⟩ xcf3 rfl (36 + (xtb t)) (xk_T (xtb_lt ht)) (xC_tab (xtb_lt ht)) [] rfl rfl (Nat.le_of_ble_eq_true rfl) dB_wormyNext_68 (kT_many G (xtb t) (xtb_lt ht) z m) (fun r68 => ?_)
  refine xR_icge 71 101 dB_wormyNext_71 (by decide) ?_ ?_
  · exact xR_sub [1, 2, 3, 0] rfl (kB_wormyNext_b101 G t ht z m k4 hk4 v1 v2 s0)
  · refine xR_aln 74 1 dB_wormyNext_74 rfl rfl ?_
    refine xR_getf 75 xcf0 0 (72 + t) (by decide) (xk_B ht) (xC_brd ht) (v := .ref (xa G (36 + (xtb t)))) rfl fl_RX0_14 dB_wormyNext_75 ?_
    refine xR_iln 78 3 dB_wormyNext_78 rfl rfl ?_
    refine xR_ic 79 (1 : Int32) dB_wormyNext_79 (by decide) ?_
    refine xR_iadd 80 dB_wormyNext_80 ?_
    refine xR_ic 81 (5 : Int32) dB_wormyNext_81 (by decide) ?_
    refine xR_callVi 82 cv_T_get ml_RX0_24 ⟨Nat.le_of_ble_eq_true rfl, Nat.le_of_ble_eq_true rfl⟩ xcf3 rfl (36 + (xtb t)) (xk_T (xtb_lt ht)) (xC_tab (xtb_lt ht)) [.int (v2 + (1 : Int32)), .int (5 : Int32)] rfl rfl (Nat.le_of_ble_eq_true rfl) dB_wormyNext_82 (kT_get G (xtb t) (xtb_lt ht) z m (v2 + (1 : Int32)) (5 : Int32)) (fun r82 => ?_)
    refine xR_aln 85 1 dB_wormyNext_85 rfl rfl ?_
    refine xR_getf 86 xcf0 0 (72 + t) (by decide) (xk_B ht) (xC_brd ht) (v := .ref (xa G (36 + (xtb t)))) rfl fl_RX0_14 dB_wormyNext_86 ?_
    refine xR_iln 89 3 dB_wormyNext_89 rfl rfl ?_
    refine xR_ic 90 (5 : Int32) dB_wormyNext_90 (by decide) ?_
    refine xR_callVi 91 cv_T_get ml_RX0_24 ⟨Nat.le_of_ble_eq_true rfl, Nat.le_of_ble_eq_true rfl⟩ xcf3 rfl (36 + (xtb t)) (xk_T (xtb_lt ht)) (xC_tab (xtb_lt ht)) [.int v2, .int (5 : Int32)] rfl rfl (Nat.le_of_ble_eq_true rfl) dB_wormyNext_91 (kT_get G (xtb t) (xtb_lt ht) z m v2 (5 : Int32)) (fun r91 => ?_)
    refine xR_icne 94 101 dB_wormyNext_94 (by decide) ?_ ?_
    · exact xR_sub [1, 2, 3, 0] rfl (kB_wormyNext_b101 G t ht z m k4 hk4 v1 v2 s0)
    · refine xR_ic 97 (1 : Int32) dB_wormyNext_97 (by decide) ?_
      refine xR_goto 98 102 dB_wormyNext_98 (by decide) ?_
      exact xR_sub [1, 2, 3, 0] rfl (kB_wormyNext_b102 G t ht z m k4 hk4 v1 v2 s0 (1 : Int32))
set_option maxRecDepth 100000 in
set_option maxHeartbeats 4000000 in
theorem kB_wormyNext_b59 (G : xG) (t : Nat) (ht : t < 5) (z : xM) (m : xM) (k4 : Int32 → Int32 → Option (Int32)) (hk4 : ∀ (v1 : Int32) (v2 : Int32), xR G yyB_wormyNext (emi (m, z)) 4 [(0, .ref (xa G (72 + t))), (1, .int v1), (2, .int v2)] [] (m, z) (k4 v1 v2)) (v1 : Int32) (v2 : Int32) : xR G yyB_wormyNext (emi (m, z)) 59 [(0, .ref (xa G (72 + t))), (1, .int v1), (2, .int v2)] [] (m, z) (fB_wormyNext_b59 t m k4 v1 v2) := by
  unfold fB_wormyNext_b59
  refine xR_ic 59 (0 : Int32) dB_wormyNext_59 (by decide) ?_
  exact kB_wormyNext_b60 G t ht z m k4 hk4 v1 v2 (0 : Int32)
set_option maxRecDepth 100000 in
set_option maxHeartbeats 4000000 in
theorem kB_wormyNext_l4 (G : xG) (t : Nat) (ht : t < 5) (z : xM) (m : xM)   : ∀ (n : Nat) (v1 : Int32) (v2 : Int32), xR G yyB_wormyNext (emi (m, z)) 4 [(0, .ref (xa G (72 + t))), (1, .int v1), (2, .int v2)] [] (m, z) (fB_wormyNext_l4 t m n v1 v2) := by
  intro n
  induction n with
  | zero =>
    intro v1 v2
    rw [fB_wormyNext_l4]
    exact xR_none
  | succ n ih =>
    intro v1 v2
    rw [fB_wormyNext_l4]
    refine xR_iln 4 2 dB_wormyNext_4 rfl rfl ?_
    refine xR_aln 5 0 dB_wormyNext_5 rfl rfl ?_
    refine xR_getf 6 xcf0 0 (72 + t) (by decide) (xk_B ht) (xC_brd ht) (v := .ref (xa G (36 + (xtb t)))) rfl fl_RX0_14 dB_wormyNext_6 ?_
    refine xR_callVi 9 cv_T_many ml_RX0_20 ⟨Nat.le_of_ble_eq_true rfl, Nat.le_of_ble_eq_true rfl⟩ xcf3 rfl (36 + (xtb t)) (xk_T (xtb_lt ht)) (xC_tab (xtb_lt ht)) [] rfl rfl (Nat.le_of_ble_eq_true rfl) dB_wormyNext_9 (kT_many G (xtb t) (xtb_lt ht) z m) (fun r9 => ?_)
    refine xR_icge 12 145 dB_wormyNext_12 (by decide) ?_ ?_
    · refine xR_iln 145 1 dB_wormyNext_145 rfl rfl ?_
      exact xR_iret 146 rfl rfl dB_wormyNext_146
    · refine xR_aln 15 0 dB_wormyNext_15 rfl rfl ?_
      refine xR_getf 16 xcf0 0 (72 + t) (by decide) (xk_B ht) (xC_brd ht) (v := .ref (xa G (36 + (xtb t)))) rfl fl_RX0_14 dB_wormyNext_16 ?_
      refine xR_iln 19 2 dB_wormyNext_19 rfl rfl ?_
      refine xR_ic 20 (4 : Int32) dB_wormyNext_20 (by decide) ?_
      refine xR_callVi 21 cv_T_get ml_RX0_24 ⟨Nat.le_of_ble_eq_true rfl, Nat.le_of_ble_eq_true rfl⟩ xcf3 rfl (36 + (xtb t)) (xk_T (xtb_lt ht)) (xC_tab (xtb_lt ht)) [.int v2, .int (4 : Int32)] rfl rfl (Nat.le_of_ble_eq_true rfl) dB_wormyNext_21 (kT_get G (xtb t) (xtb_lt ht) z m v2 (4 : Int32)) (fun r21 => ?_)
      refine xR_ic 24 (1 : Int32) dB_wormyNext_24 (by decide) ?_
      refine xR_icne 25 139 dB_wormyNext_25 (by decide) ?_ ?_
      · exact kB_wormyNext_b139 G t ht z m (fB_wormyNext_l4 t m n) ih v1 v2
      · refine xR_iln 28 2 dB_wormyNext_28 rfl rfl ?_
        refine xR_ifle 29 59 dB_wormyNext_29 (by decide) ?_ ?_
        · exact kB_wormyNext_b59 G t ht z m (fB_wormyNext_l4 t m n) ih v1 v2
        · refine xR_aln 32 0 dB_wormyNext_32 rfl rfl ?_
          refine xR_getf 33 xcf0 0 (72 + t) (by decide) (xk_B ht) (xC_brd ht) (v := .ref (xa G (36 + (xtb t)))) rfl fl_RX0_14 dB_wormyNext_33 ?_
          refine xR_iln 36 2 dB_wormyNext_36 rfl rfl ?_
          refine xR_ic 37 (1 : Int32) dB_wormyNext_37 (by decide) ?_
          refine xR_isub 38 dB_wormyNext_38 ?_
          refine xR_ic 39 (5 : Int32) dB_wormyNext_39 (by decide) ?_
          refine xR_callVi 40 cv_T_get ml_RX0_24 ⟨Nat.le_of_ble_eq_true rfl, Nat.le_of_ble_eq_true rfl⟩ xcf3 rfl (36 + (xtb t)) (xk_T (xtb_lt ht)) (xC_tab (xtb_lt ht)) [.int (v2 - (1 : Int32)), .int (5 : Int32)] rfl rfl (Nat.le_of_ble_eq_true rfl) dB_wormyNext_40 (kT_get G (xtb t) (xtb_lt ht) z m (v2 - (1 : Int32)) (5 : Int32)) (fun r40 => ?_)
          refine xR_aln 43 0 dB_wormyNext_43 rfl rfl ?_
          refine xR_getf 44 xcf0 0 (72 + t) (by decide) (xk_B ht) (xC_brd ht) (v := .ref (xa G (36 + (xtb t)))) rfl fl_RX0_14 dB_wormyNext_44 ?_
          refine xR_iln 47 2 dB_wormyNext_47 rfl rfl ?_
          refine xR_ic 48 (5 : Int32) dB_wormyNext_48 (by decide) ?_
          refine xR_callVi 49 cv_T_get ml_RX0_24 ⟨Nat.le_of_ble_eq_true rfl, Nat.le_of_ble_eq_true rfl⟩ xcf3 rfl (36 + (xtb t)) (xk_T (xtb_lt ht)) (xC_tab (xtb_lt ht)) [.int v2, .int (5 : Int32)] rfl rfl (Nat.le_of_ble_eq_true rfl) dB_wormyNext_49 (kT_get G (xtb t) (xtb_lt ht) z m v2 (5 : Int32)) (fun r49 => ?_)
          refine xR_icne 52 59 dB_wormyNext_52 (by decide) ?_ ?_
          · exact kB_wormyNext_b59 G t ht z m (fB_wormyNext_l4 t m n) ih v1 v2
          · refine xR_ic 55 (1 : Int32) dB_wormyNext_55 (by decide) ?_
            refine xR_goto 56 60 dB_wormyNext_56 (by decide) ?_
            exact kB_wormyNext_b60 G t ht z m (fB_wormyNext_l4 t m n) ih v1 v2 (1 : Int32)
set_option maxRecDepth 100000 in
set_option maxHeartbeats 4000000 in
theorem kB_wormyNext (G : xG) (t : Nat) (ht : t < 5) (z : xM) (m : xM) : ∀ a, fB_wormyNext t m  = some a → xCt G yyB_wormyNext [.ref (xa G (72 + t))] (m, z) (some (.int a)) (m, z) := by
  refine xR_ct (em := (emi (m, z))) rfl (Nat.le_of_ble_eq_true rfl) ?_
  show xR G yyB_wormyNext _ 0 [(0, .ref (xa G (72 + t)))] [] _ _
  unfold fB_wormyNext
  refine xR_ic 0 (0 : Int32) dB_wormyNext_0 (by decide) ?_
  refine xR_isn 1 ([(1, .int (0 : Int32)), (0, .ref (xa G (72 + t)))]) dB_wormyNext_1 rfl (by decide) rfl ?_
  refine xR_ic 2 (0 : Int32) dB_wormyNext_2 (by decide) ?_
  refine xR_isn 3 ([(2, .int (0 : Int32)), (1, .int (0 : Int32)), (0, .ref (xa G (72 + t)))]) dB_wormyNext_3 rfl (by decide) rfl ?_
  exact xR_sub [2, 1, 0] rfl (kB_wormyNext_l4 G t ht z m xfu (0 : Int32) (0 : Int32))
theorem dB_moreDamp_0 : decode (xb yyB_moreDamp) 0 = .ok (.aload_n 0, 1) := by decide +kernel
theorem dB_moreDamp_1 : decode (xb yyB_moreDamp) 1 = .ok (.getfield 14, 3) := by decide +kernel
theorem dB_moreDamp_4 : decode (xb yyB_moreDamp) 4 = .ok (.iload_n 1, 1) := by decide +kernel
theorem dB_moreDamp_5 : decode (xb yyB_moreDamp) 5 = .ok (.iconst 2, 1) := by decide +kernel
theorem dB_moreDamp_6 : decode (xb yyB_moreDamp) 6 = .ok (.aload_n 0, 1) := by decide +kernel
theorem dB_moreDamp_7 : decode (xb yyB_moreDamp) 7 = .ok (.getfield 14, 3) := by decide +kernel
theorem dB_moreDamp_10 : decode (xb yyB_moreDamp) 10 = .ok (.iload_n 1, 1) := by decide +kernel
theorem dB_moreDamp_11 : decode (xb yyB_moreDamp) 11 = .ok (.iconst 2, 1) := by decide +kernel
theorem dB_moreDamp_12 : decode (xb yyB_moreDamp) 12 = .ok (.invokevirtual 24, 3) := by decide +kernel
theorem dB_moreDamp_15 : decode (xb yyB_moreDamp) 15 = .ok (.iload_n 2, 1) := by decide +kernel
theorem dB_moreDamp_16 : decode (xb yyB_moreDamp) 16 = .ok (.iadd, 1) := by decide +kernel
theorem dB_moreDamp_17 : decode (xb yyB_moreDamp) 17 = .ok (.bipush 9, 2) := by decide +kernel
theorem dB_moreDamp_19 : decode (xb yyB_moreDamp) 19 = .ok (.invokestatic 60, 3) := by decide +kernel
theorem dB_moreDamp_22 : decode (xb yyB_moreDamp) 22 = .ok (.invokevirtual 28, 3) := by decide +kernel
theorem dB_moreDamp_25 : decode (xb yyB_moreDamp) 25 = .ok (.return_, 1) := by decide +kernel
def fB_moreDamp (t : Nat) (v1 : Int32) (v2 : Int32) (m : xM) : Option (xM) := (fT_get (xtb t) m v1 (2 : Int32)).bind fun r12 => (fT_put (xtb t) v1 (2 : Int32) (xmin (r12 + v2) (9 : Int32)) m).bind fun r22 => some r22
set_option maxRecDepth 100000 in
set_option maxHeartbeats 4000000 in
theorem kB_moreDamp (G : xG) (t : Nat) (ht : t < 5) (z : xM) (m : xM) (v1 : Int32) (v2 : Int32) : ∀ a, fB_moreDamp t v1 v2 m = some a → xCt G yyB_moreDamp [.ref (xa G (72 + t)), .int v1, .int v2] (m, z) (none) (a, z) := by
  refine xR_ct (em := (emvc z)) rfl (Nat.le_of_ble_eq_true rfl) ?_
  show xR G yyB_moreDamp _ 0 [(0, .ref (xa G (72 + t))), (1, .int v1), (2, .int v2)] [] _ _
  unfold fB_moreDamp
  refine xR_aln 0 0 dB_moreDamp_0 rfl rfl ?_
  refine xR_getf 1 xcf0 0 (72 + t) (by decide) (xk_B ht) (xC_brd ht) (v := .ref (xa G (36 + (xtb t)))) rfl fl_RX0_14 dB_moreDamp_1 ?_
  refine xR_iln 4 1 dB_moreDamp_4 rfl rfl ?_
  refine xR_ic 5 (2 : Int32) dB_moreDamp_5 (by decide) ?_
  refine xR_aln 6 0 dB_moreDamp_6 rfl rfl ?_
  refine xR_getf 7 xcf0 0 (72 + t) (by decide) (xk_B ht) (xC_brd ht) (v := .ref (xa G (36 + (xtb t)))) rfl fl_RX0_14 dB_moreDamp_7 ?_
  refine xR_iln 10 1 dB_moreDamp_10 rfl rfl ?_
  refine xR_ic 11 (2 : Int32) dB_moreDamp_11 (by decide) ?_
  refine xR_callVi 12 cv_T_get ml_RX0_24 ⟨Nat.le_of_ble_eq_true rfl, Nat.le_of_ble_eq_true rfl⟩ xcf3 rfl (36 + (xtb t)) (xk_T (xtb_lt ht)) (xC_tab (xtb_lt ht)) [.int v1, .int (2 : Int32)] rfl rfl (Nat.le_of_ble_eq_true rfl) dB_moreDamp_12 (kT_get G (xtb t) (xtb_lt ht) z m v1 (2 : Int32)) (fun r12 => ?_)
  refine xR_iln 15 2 dB_moreDamp_15 rfl rfl ?_
  refine xR_iadd 16 dB_moreDamp_16 ?_
  refine xR_bp 17 (9 : Int32) dB_moreDamp_17 (by decide) ?_
  refine xR_mmin 19 ml_RX0_60 ⟨Nat.le_of_ble_eq_true rfl, Nat.le_of_ble_eq_true rfl⟩ dB_moreDamp_19 ?_
  refine xR_callVvc 22 cv_T_put ml_RX0_28 ⟨Nat.le_of_ble_eq_true rfl, Nat.le_of_ble_eq_true rfl⟩ xcf3 rfl (36 + (xtb t)) (xk_T (xtb_lt ht)) (xC_tab (xtb_lt ht)) [.int v1, .int (2 : Int32), .int (xmin (r12 + v2) (9 : Int32))] rfl rfl (Nat.le_of_ble_eq_true rfl) dB_moreDamp_22 (kT_put G (xtb t) (xtb_lt ht) z m v1 (2 : Int32) (xmin (r12 + v2) (9 : Int32))) (fun r22 => ?_)
  exact xR_vret 25 rfl rfl dB_moreDamp_25
theorem dB_lessDamp_0 : decode (xb yyB_lessDamp) 0 = .ok (.aload_n 0, 1) := by decide +kernel
theorem dB_lessDamp_1 : decode (xb yyB_lessDamp) 1 = .ok (.getfield 14, 3) := by decide +kernel
theorem dB_lessDamp_4 : decode (xb yyB_lessDamp) 4 = .ok (.iload_n 1, 1) := by decide +kernel
theorem dB_lessDamp_5 : decode (xb yyB_lessDamp) 5 = .ok (.iconst 2, 1) := by decide +kernel
theorem dB_lessDamp_6 : decode (xb yyB_lessDamp) 6 = .ok (.aload_n 0, 1) := by decide +kernel
theorem dB_lessDamp_7 : decode (xb yyB_lessDamp) 7 = .ok (.getfield 14, 3) := by decide +kernel
theorem dB_lessDamp_10 : decode (xb yyB_lessDamp) 10 = .ok (.iload_n 1, 1) := by decide +kernel
theorem dB_lessDamp_11 : decode (xb yyB_lessDamp) 11 = .ok (.iconst 2, 1) := by decide +kernel
theorem dB_lessDamp_12 : decode (xb yyB_lessDamp) 12 = .ok (.invokevirtual 24, 3) := by decide +kernel
theorem dB_lessDamp_15 : decode (xb yyB_lessDamp) 15 = .ok (.iload_n 2, 1) := by decide +kernel
theorem dB_lessDamp_16 : decode (xb yyB_lessDamp) 16 = .ok (.isub, 1) := by decide +kernel
theorem dB_lessDamp_17 : decode (xb yyB_lessDamp) 17 = .ok (.iconst 0, 1) := by decide +kernel
theorem dB_lessDamp_18 : decode (xb yyB_lessDamp) 18 = .ok (.invokestatic 55, 3) := by decide +kernel
theorem dB_lessDamp_21 : decode (xb yyB_lessDamp) 21 = .ok (.invokevirtual 28, 3) := by decide +kernel
theorem dB_lessDamp_24 : decode (xb yyB_lessDamp) 24 = .ok (.return_, 1) := by decide +kernel
def fB_lessDamp (t : Nat) (v1 : Int32) (v2 : Int32) (m : xM) : Option (xM) := (fT_get (xtb t) m v1 (2 : Int32)).bind fun r12 => (fT_put (xtb t) v1 (2 : Int32) (xmax (r12 - v2) (0 : Int32)) m).bind fun r21 => some r21
set_option maxRecDepth 100000 in
set_option maxHeartbeats 4000000 in
theorem kB_lessDamp (G : xG) (t : Nat) (ht : t < 5) (z : xM) (m : xM) (v1 : Int32) (v2 : Int32) : ∀ a, fB_lessDamp t v1 v2 m = some a → xCt G yyB_lessDamp [.ref (xa G (72 + t)), .int v1, .int v2] (m, z) (none) (a, z) := by
  refine xR_ct (em := (emvc z)) rfl (Nat.le_of_ble_eq_true rfl) ?_
  show xR G yyB_lessDamp _ 0 [(0, .ref (xa G (72 + t))), (1, .int v1), (2, .int v2)] [] _ _
  unfold fB_lessDamp
  refine xR_aln 0 0 dB_lessDamp_0 rfl rfl ?_
  refine xR_getf 1 xcf0 0 (72 + t) (by decide) (xk_B ht) (xC_brd ht) (v := .ref (xa G (36 + (xtb t)))) rfl fl_RX0_14 dB_lessDamp_1 ?_
  refine xR_iln 4 1 dB_lessDamp_4 rfl rfl ?_
  refine xR_ic 5 (2 : Int32) dB_lessDamp_5 (by decide) ?_
  refine xR_aln 6 0 dB_lessDamp_6 rfl rfl ?_
  refine xR_getf 7 xcf0 0 (72 + t) (by decide) (xk_B ht) (xC_brd ht) (v := .ref (xa G (36 + (xtb t)))) rfl fl_RX0_14 dB_lessDamp_7 ?_
  refine xR_iln 10 1 dB_lessDamp_10 rfl rfl ?_
  refine xR_ic 11 (2 : Int32) dB_lessDamp_11 (by decide) ?_
  refine xR_callVi 12 cv_T_get ml_RX0_24 ⟨Nat.le_of_ble_eq_true rfl, Nat.le_of_ble_eq_true rfl⟩ xcf3 rfl (36 + (xtb t)) (xk_T (xtb_lt ht)) (xC_tab (xtb_lt ht)) [.int v1, .int (2 : Int32)] rfl rfl (Nat.le_of_ble_eq_true rfl) dB_lessDamp_12 (kT_get G (xtb t) (xtb_lt ht) z m v1 (2 : Int32)) (fun r12 => ?_)
  refine xR_iln 15 2 dB_lessDamp_15 rfl rfl ?_
  refine xR_isub 16 dB_lessDamp_16 ?_
  refine xR_ic 17 (0 : Int32) dB_lessDamp_17 (by decide) ?_
  refine xR_mmax 18 ml_RX0_55 ⟨Nat.le_of_ble_eq_true rfl, Nat.le_of_ble_eq_true rfl⟩ dB_lessDamp_18 ?_
  refine xR_callVvc 21 cv_T_put ml_RX0_28 ⟨Nat.le_of_ble_eq_true rfl, Nat.le_of_ble_eq_true rfl⟩ xcf3 rfl (36 + (xtb t)) (xk_T (xtb_lt ht)) (xC_tab (xtb_lt ht)) [.int v1, .int (2 : Int32), .int (xmax (r12 - v2) (0 : Int32))] rfl rfl (Nat.le_of_ble_eq_true rfl) dB_lessDamp_21 (kT_put G (xtb t) (xtb_lt ht) z m v1 (2 : Int32) (xmax (r12 - v2) (0 : Int32))) (fun r21 => ?_)
  exact xR_vret 24 rfl rfl dB_lessDamp_24
theorem dB_passYear_0 : decode (xb yyB_passYear) 0 = .ok (.aload_n 1, 1) := by decide +kernel
theorem dB_passYear_1 : decode (xb yyB_passYear) 1 = .ok (.aload_n 0, 1) := by decide +kernel
theorem dB_passYear_2 : decode (xb yyB_passYear) 2 = .ok (.getfield 35, 3) := by decide +kernel
theorem dB_passYear_5 : decode (xb yyB_passYear) 5 = .ok (.iconst 5, 1) := by decide +kernel
theorem dB_passYear_6 : decode (xb yyB_passYear) 6 = .ok (.irem, 1) := by decide +kernel
theorem dB_passYear_7 : decode (xb yyB_passYear) 7 = .ok (.iconst 0, 1) := by decide +kernel
theorem dB_passYear_8 : decode (xb yyB_passYear) 8 = .ok (.invokevirtual 24, 3) := by decide +kernel
theorem dB_passYear_11 : decode (xb yyB_passYear) 11 = .ok (.istore_n 2, 1) := by decide +kernel
theorem dB_passYear_12 : decode (xb yyB_passYear) 12 = .ok (.aload_n 0, 1) := by decide +kernel
theorem dB_passYear_13 : decode (xb yyB_passYear) 13 = .ok (.invokevirtual 69, 3) := by decide +kernel
theorem dB_passYear_16 : decode (xb yyB_passYear) 16 = .ok (.istore_n 3, 1) := by decide +kernel
theorem dB_passYear_17 : decode (xb yyB_passYear) 17 = .ok (.iconst 0, 1) := by decide +kernel
theorem dB_passYear_18 : decode (xb yyB_passYear) 18 = .ok (.istore 4, 2) := by decide +kernel
theorem dB_passYear_20 : decode (xb yyB_passYear) 20 = .ok (.iload 4, 2) := by decide +kernel
theorem dB_passYear_22 : decode (xb yyB_passYear) 22 = .ok (.aload_n 0, 1) := by decide +kernel
theorem dB_passYear_23 : decode (xb yyB_passYear) 23 = .ok (.getfield 14, 3) := by decide +kernel
theorem dB_passYear_26 : decode (xb yyB_passYear) 26 = .ok (.invokevirtual 20, 3) := by decide +kernel
theorem dB_passYear_29 : decode (xb yyB_passYear) 29 = .ok (.if_icmp .ge 78, 3) := by decide +kernel
theorem dB_passYear_32 : decode (xb yyB_passYear) 32 = .ok (.aload_n 0, 1) := by decide +kernel
theorem dB_passYear_33 : decode (xb yyB_passYear) 33 = .ok (.getfield 14, 3) := by decide +kernel
theorem dB_passYear_36 : decode (xb yyB_passYear) 36 = .ok (.iload 4, 2) := by decide +kernel
theorem dB_passYear_38 : decode (xb yyB_passYear) 38 = .ok (.iconst 1, 1) := by decide +kernel
theorem dB_passYear_39 : decode (xb yyB_passYear) 39 = .ok (.aload_n 0, 1) := by decide +kernel
theorem dB_passYear_40 : decode (xb yyB_passYear) 40 = .ok (.getfield 14, 3) := by decide +kernel
theorem dB_passYear_43 : decode (xb yyB_passYear) 43 = .ok (.iload 4, 2) := by decide +kernel
theorem dB_passYear_45 : decode (xb yyB_passYear) 45 = .ok (.iconst 1, 1) := by decide +kernel
theorem dB_passYear_46 : decode (xb yyB_passYear) 46 = .ok (.invokevirtual 24, 3) := by decide +kernel
theorem dB_passYear_49 : decode (xb yyB_passYear) 49 = .ok (.iconst 1, 1) := by decide +kernel
theorem dB_passYear_50 : decode (xb yyB_passYear) 50 = .ok (.iadd, 1) := by decide +kernel
theorem dB_passYear_51 : decode (xb yyB_passYear) 51 = .ok (.bipush 99, 2) := by decide +kernel
theorem dB_passYear_53 : decode (xb yyB_passYear) 53 = .ok (.invokestatic 60, 3) := by decide +kernel
theorem dB_passYear_56 : decode (xb yyB_passYear) 56 = .ok (.invokevirtual 28, 3) := by decide +kernel
theorem dB_passYear_59 : decode (xb yyB_passYear) 59 = .ok (.aload_n 0, 1) := by decide +kernel
theorem dB_passYear_60 : decode (xb yyB_passYear) 60 = .ok (.iload 4, 2) := by decide +kernel
theorem dB_passYear_62 : decode (xb yyB_passYear) 62 = .ok (.invokevirtual 72, 3) := by decide +kernel
theorem dB_passYear_65 : decode (xb yyB_passYear) 65 = .ok (.ifCond .eq 13, 3) := by decide +kernel
theorem dB_passYear_68 : decode (xb yyB_passYear) 68 = .ok (.aload_n 0, 1) := by decide +kernel
theorem dB_passYear_69 : decode (xb yyB_passYear) 69 = .ok (.iload 4, 2) := by decide +kernel
theorem dB_passYear_71 : decode (xb yyB_passYear) 71 = .ok (.iload_n 2, 1) := by decide +kernel
theorem dB_passYear_72 : decode (xb yyB_passYear) 72 = .ok (.invokevirtual 76, 3) := by decide +kernel
theorem dB_passYear_75 : decode (xb yyB_passYear) 75 = .ok (.goto 10, 3) := by decide +kernel
theorem dB_passYear_78 : decode (xb yyB_passYear) 78 = .ok (.aload_n 0, 1) := by decide +kernel
theorem dB_passYear_79 : decode (xb yyB_passYear) 79 = .ok (.iload 4, 2) := by decide +kernel
theorem dB_passYear_81 : decode (xb yyB_passYear) 81 = .ok (.iconst 1, 1) := by decide +kernel
theorem dB_passYear_82 : decode (xb yyB_passYear) 82 = .ok (.invokevirtual 79, 3) := by decide +kernel
theorem dB_passYear_85 : decode (xb yyB_passYear) 85 = .ok (.aload_n 0, 1) := by decide +kernel
theorem dB_passYear_86 : decode (xb yyB_passYear) 86 = .ok (.getfield 14, 3) := by decide +kernel
theorem dB_passYear_89 : decode (xb yyB_passYear) 89 = .ok (.iload 4, 2) := by decide +kernel
theorem dB_passYear_91 : decode (xb yyB_passYear) 91 = .ok (.iconst 4, 1) := by decide +kernel
theorem dB_passYear_92 : decode (xb yyB_passYear) 92 = .ok (.iload_n 3, 1) := by decide +kernel
theorem dB_passYear_93 : decode (xb yyB_passYear) 93 = .ok (.iload 4, 2) := by decide +kernel
theorem dB_passYear_95 : decode (xb yyB_passYear) 95 = .ok (.ishr, 1) := by decide +kernel
theorem dB_passYear_96 : decode (xb yyB_passYear) 96 = .ok (.iconst 1, 1) := by decide +kernel
theorem dB_passYear_97 : decode (xb yyB_passYear) 97 = .ok (.iand, 1) := by decide +kernel
theorem dB_passYear_98 : decode (xb yyB_passYear) 98 = .ok (.invokevirtual 28, 3) := by decide +kernel
theorem dB_passYear_101 : decode (xb yyB_passYear) 101 = .ok (.iinc 4 1, 3) := by decide +kernel
theorem dB_passYear_104 : decode (xb yyB_passYear) 104 = .ok (.goto (-84), 3) := by decide +kernel
theorem dB_passYear_107 : decode (xb yyB_passYear) 107 = .ok (.aload_n 0, 1) := by decide +kernel
theorem dB_passYear_108 : decode (xb yyB_passYear) 108 = .ok (.dup, 1) := by decide +kernel
theorem dB_passYear_109 : decode (xb yyB_passYear) 109 = .ok (.getfield 35, 3) := by decide +kernel
theorem dB_passYear_112 : decode (xb yyB_passYear) 112 = .ok (.iconst 1, 1) := by decide +kernel
theorem dB_passYear_113 : decode (xb yyB_passYear) 113 = .ok (.iadd, 1) := by decide +kernel
theorem dB_passYear_114 : decode (xb yyB_passYear) 114 = .ok (.putfield 35, 3) := by decide +kernel
theorem dB_passYear_117 : decode (xb yyB_passYear) 117 = .ok (.return_, 1) := by decide +kernel
def fB_passYear_b85 (t : Nat) (t1 : Nat) (k20 : Int32 → Int32 → Int32 → xM → Option (xM)) (v2 : Int32) (v3 : Int32) (v4 : Int32) (m : xM) : Option (xM) := (fT_put (xtb t) v4 (4 : Int32) ((v3 >>> (v4 &&& 31)) &&& (1 : Int32)) m).bind fun r98 => k20 v2 v3 (v4 + 1) r98
def fB_passYear_l20 (t : Nat) (t1 : Nat) : Nat → Int32 → Int32 → Int32 → xM → Option (xM)
  | 0, _, _, _, _ => none
  | n + 1, v2, v3, v4, m => (fT_many (xtb t) m).bind fun r26 => (if r26 ≤ v4 then some (xset m 37 t ((m.1 37 t) + (1 : Int32))) else (fT_get (xtb t) m v4 (1 : Int32)).bind fun r46 => (fT_put (xtb t) v4 (1 : Int32) (xmin (r46 + (1 : Int32)) (99 : Int32)) m).bind fun r56 => (fB_isFree t r56 v4).bind fun r62 => (if r62 = 0 then (fB_lessDamp t v4 (1 : Int32) r56).bind fun r82 => fB_passYear_b85 t t1 (fB_passYear_l20 t t1 n) v2 v3 v4 r82 else (fB_moreDamp t v4 v2 r56).bind fun r72 => fB_passYear_b85 t t1 (fB_passYear_l20 t t1 n) v2 v3 v4 r72))
def fB_passYear (t : Nat) (t1 : Nat) (m : xM) : Option (xM) := (fT_get t1 m ((m.1 37 t) - (m.1 37 t) / (5 : Int32) * (5 : Int32)) (0 : Int32)).bind fun r8 => (fB_wormyNext t m).bind fun r13 => fB_passYear_l20 t t1 xfu r8 r13 (0 : Int32) m
set_option maxRecDepth 100000 in
set_option maxHeartbeats 4000000 in
theorem kB_passYear_b85 (G : xG) (t : Nat) (t1 : Nat) (ht : t < 5) (ht1 : t1 < 36) (z : xM)  (k20 : Int32 → Int32 → Int32 → xM → Option (xM)) (hk20 : ∀ (v2 : Int32) (v3 : Int32) (v4 : Int32) (m : xM), xR G yyB_passYear (emvc z) 20 [(0, .ref (xa G (72 + t))), (2, .int v2), (3, .int v3), (4, .int v4)] [] (m, z) (k20 v2 v3 v4 m)) (v2 : Int32) (v3 : Int32) (v4 : Int32) (m : xM) : xR G yyB_passYear (emvc z) 85 [(0, .ref (xa G (72 + t))), (2, .int v2), (3, .int v3), (4, .int v4)] [] (m, z) (fB_passYear_b85 t t1 k20 v2 v3 v4 m) := by
  unfold fB_passYear_b85
  refine xR_aln 85 0 dB_passYear_85 rfl rfl ?_
  refine xR_getf 86 xcf0 0 (72 + t) (by decide) (xk_B ht) (xC_brd ht) (v := .ref (xa G (36 + (xtb t)))) rfl fl_RX0_14 dB_passYear_86 ?_
  refine xR_il 89 3 dB_passYear_89 rfl ?_
  refine xR_ic 91 (4 : Int32) dB_passYear_91 (by decide) ?_
  refine xR_iln 92 2 dB_passYear_92 rfl rfl ?_
  refine xR_il 93 3 dB_passYear_93 rfl ?_
  refine xR_ishr 95 dB_passYear_95 ?_
  refine xR_ic 96 (1 : Int32) dB_passYear_96 (by decide) ?_
  refine xR_iand 97 dB_passYear_97 ?_
  refine xR_callVvc 98 cv_T_put ml_RX0_28 ⟨Nat.le_of_ble_eq_true rfl, Nat.le_of_ble_eq_true rfl⟩ xcf3 rfl (36 + (xtb t)) (xk_T (xtb_lt ht)) (xC_tab (xtb_lt ht)) [.int v4, .int (4 : Int32), .int ((v3 >>> (v4 &&& 31)) &&& (1 : Int32))] rfl rfl (Nat.le_of_ble_eq_true rfl) dB_passYear_98 (kT_put G (xtb t) (xtb_lt ht) z m v4 (4 : Int32) ((v3 >>> (v4 &&& 31)) &&& (1 : Int32))) (fun r98 => ?_)
  refine xR_iinc 101 3 (v4 + 1) ([(4, .int (v4 + 1)), (0, .ref (xa G (72 + t))), (2, .int v2), (3, .int v3)]) dB_passYear_101 rfl rfl (by decide) rfl ?_
  refine xR_goto 104 20 dB_passYear_104 (by decide) ?_
  exact xR_sub [1, 2, 3, 0] rfl (hk20 v2 v3 (v4 + 1) r98)
set_option maxRecDepth 100000 in
set_option maxHeartbeats 4000000 in
theorem kB_passYear_l20 (G : xG) (t : Nat) (t1 : Nat) (ht : t < 5) (ht1 : t1 < 36) (z : xM)    : ∀ (n : Nat) (v2 : Int32) (v3 : Int32) (v4 : Int32) (m : xM), xR G yyB_passYear (emvc z) 20 [(0, .ref (xa G (72 + t))), (2, .int v2), (3, .int v3), (4, .int v4)] [] (m, z) (fB_passYear_l20 t t1 n v2 v3 v4 m) := by
  intro n
  induction n with
  | zero =>
    intro v2 v3 v4 m
    rw [fB_passYear_l20]
    exact xR_none
  | succ n ih =>
    intro v2 v3 v4 m
    rw [fB_passYear_l20]
    refine xR_il 20 3 dB_passYear_20 rfl ?_
    refine xR_aln 22 0 dB_passYear_22 rfl rfl ?_
    refine xR_getf 23 xcf0 0 (72 + t) (by decide) (xk_B ht) (xC_brd ht) (v := .ref (xa G (36 + (xtb t)))) rfl fl_RX0_14 dB_passYear_23 ?_
    refine xR_callVi 26 cv_T_many ml_RX0_20 ⟨Nat.le_of_ble_eq_true rfl, Nat.le_of_ble_eq_true rfl⟩ xcf3 rfl (36 + (xtb t)) (xk_T (xtb_lt ht)) (xC_tab (xtb_lt ht)) [] rfl rfl (Nat.le_of_ble_eq_true rfl) dB_passYear_26 (kT_many G (xtb t) (xtb_lt ht) z m) (fun r26 => ?_)
    refine xR_icge 29 107 dB_passYear_29 (by decide) ?_ ?_
    · refine xR_aln 107 0 dB_passYear_107 rfl rfl ?_
      refine xR_dup 108 dB_passYear_108 rfl ?_
      refine xR_getf 109 xcf0 1 (72 + t) (by decide) (xk_B ht) (xC_brd ht) (v := .int (m.1 37 t)) rfl fl_RX0_35 dB_passYear_109 ?_
      refine xR_ic 112 (1 : Int32) dB_passYear_112 (by decide) ?_
      refine xR_iadd 113 dB_passYear_113 ?_
      refine xR_putf 114 xcf0 1 (72 + t) (by decide) (xk_B ht) (xC_brd ht) rfl rfl rfl (Nat.le_of_ble_eq_true rfl) ((xset m 37 t ((m.1 37 t) + (1 : Int32))), z) (xW_year ht) fl_RX0_35 dB_passYear_114 ?_
      exact xR_vret 117 rfl rfl dB_passYear_117
    · refine xR_aln 32 0 dB_passYear_32 rfl rfl ?_
      refine xR_getf 33 xcf0 0 (72 + t) (by decide) (xk_B ht) (xC_brd ht) (v := .ref (xa G (36 + (xtb t)))) rfl fl_RX0_14 dB_passYear_33 ?_
      refine xR_il 36 3 dB_passYear_36 rfl ?_
      refine xR_ic 38 (1 : Int32) dB_passYear_38 (by decide) ?_
      refine xR_aln 39 0 dB_passYear_39 rfl rfl ?_
      refine xR_getf 40 xcf0 0 (72 + t) (by decide) (xk_B ht) (xC_brd ht) (v := .ref (xa G (36 + (xtb t)))) rfl fl_RX0_14 dB_passYear_40 ?_
      refine xR_il 43 3 dB_passYear_43 rfl ?_
      refine xR_ic 45 (1 : Int32) dB_passYear_45 (by decide) ?_
      refine xR_callVi 46 cv_T_get ml_RX0_24 ⟨Nat.le_of_ble_eq_true rfl, Nat.le_of_ble_eq_true rfl⟩ xcf3 rfl (36 + (xtb t)) (xk_T (xtb_lt ht)) (xC_tab (xtb_lt ht)) [.int v4, .int (1 : Int32)] rfl rfl (Nat.le_of_ble_eq_true rfl) dB_passYear_46 (kT_get G (xtb t) (xtb_lt ht) z m v4 (1 : Int32)) (fun r46 => ?_)
      refine xR_ic 49 (1 : Int32) dB_passYear_49 (by decide) ?_
      refine xR_iadd 50 dB_passYear_50 ?_
      refine xR_bp 51 (99 : Int32) dB_passYear_51 (by decide) ?_
      refine xR_mmin 53 ml_RX0_60 ⟨Nat.le_of_ble_eq_true rfl, Nat.le_of_ble_eq_true rfl⟩ dB_passYear_53 ?_
      refine xR_callVvc 56 cv_T_put ml_RX0_28 ⟨Nat.le_of_ble_eq_true rfl, Nat.le_of_ble_eq_true rfl⟩ xcf3 rfl (36 + (xtb t)) (xk_T (xtb_lt ht)) (xC_tab (xtb_lt ht)) [.int v4, .int (1 : Int32), .int (xmin (r46 + (1 : Int32)) (99 : Int32))] rfl rfl (Nat.le_of_ble_eq_true rfl) dB_passYear_56 (kT_put G (xtb t) (xtb_lt ht) z m v4 (1 : Int32) (xmin (r46 + (1 : Int32)) (99 : Int32))) (fun r56 => ?_)
      refine xR_aln 59 0 dB_passYear_59 rfl rfl ?_
      refine xR_il 60 3 dB_passYear_60 rfl ?_
      refine xR_callVi 62 cv_B_isFree ml_RX0_72 ⟨Nat.le_of_ble_eq_true rfl, Nat.le_of_ble_eq_true rfl⟩ xcf0 rfl (72 + t) (xk_B ht) (xC_brd ht) [.int v4] rfl rfl (Nat.le_of_ble_eq_true rfl) dB_passYear_62 (kB_isFree G t ht z r56 v4) (fun r62 => ?_)
      refine xR_ifeq 65 78 dB_passYear_65 (by decide) ?_ ?_
      · refine xR_aln 78 0 dB_passYear_78 rfl rfl ?_
        refine xR_il 79 3 dB_passYear_79 rfl ?_
        refine xR_ic 81 (1 : Int32) dB_passYear_81 (by decide) ?_
        refine xR_callVvc 82 cv_B_lessDamp ml_RX0_79 ⟨Nat.le_of_ble_eq_true rfl, Nat.le_of_ble_eq_true rfl⟩ xcf0 rfl (72 + t) (xk_B ht) (xC_brd ht) [.int v4, .int (1 : Int32)] rfl rfl (Nat.le_of_ble_eq_true rfl) dB_passYear_82 (kB_lessDamp G t ht z r56 v4 (1 : Int32)) (fun r82 => ?_)
        exact kB_passYear_b85 G t t1 ht ht1 z (fB_passYear_l20 t t1 n) ih v2 v3 v4 r82
      · refine xR_aln 68 0 dB_passYear_68 rfl rfl ?_
        refine xR_il 69 3 dB_passYear_69 rfl ?_
        refine xR_iln 71 1 dB_passYear_71 rfl rfl ?_
        refine xR_callVvc 72 cv_B_moreDamp ml_RX0_76 ⟨Nat.le_of_ble_eq_true rfl, Nat.le_of_ble_eq_true rfl⟩ xcf0 rfl (72 + t) (xk_B ht) (xC_brd ht) [.int v4, .int v2] rfl rfl (Nat.le_of_ble_eq_true rfl) dB_passYear_72 (kB_moreDamp G t ht z r56 v4 v2) (fun r72 => ?_)
        refine xR_goto 75 85 dB_passYear_75 (by decide) ?_
        exact kB_passYear_b85 G t t1 ht ht1 z (fB_passYear_l20 t t1 n) ih v2 v3 v4 r72
set_option maxRecDepth 100000 in
set_option maxHeartbeats 4000000 in
theorem kB_passYear (G : xG) (t : Nat) (t1 : Nat) (ht : t < 5) (ht1 : t1 < 36) (z : xM) (m : xM) : ∀ a, fB_passYear t t1 m = some a → xCt G yyB_passYear [.ref (xa G (72 + t)), .ref (xa G (36 + t1))] (m, z) (none) (a, z) := by
  refine xR_ct (em := (emvc z)) rfl (Nat.le_of_ble_eq_true rfl) ?_
  show xR G yyB_passYear _ 0 [(0, .ref (xa G (72 + t))), (1, .ref (xa G (36 + t1)))] [] _ _
  unfold fB_passYear
  refine xR_aln 0 1 dB_passYear_0 rfl rfl ?_
  refine xR_aln 1 0 dB_passYear_1 rfl rfl ?_
  refine xR_getf 2 xcf0 1 (72 + t) (by decide) (xk_B ht) (xC_brd ht) (v := .int (m.1 37 t)) rfl fl_RX0_35 dB_passYear_2 ?_
  refine xR_ic 5 (5 : Int32) dB_passYear_5 (by decide) ?_
  refine xR_irem 6 dB_passYear_6 (by decide) ?_
  refine xR_ic 7 (0 : Int32) dB_passYear_7 (by decide) ?_
  refine xR_callVi 8 cv_T_get ml_RX0_24 ⟨Nat.le_of_ble_eq_true rfl, Nat.le_of_ble_eq_true rfl⟩ xcf3 rfl (36 + t1) (xk_T ht1) (xC_tab ht1) [.int ((m.1 37 t) - (m.1 37 t) / (5 : Int32) * (5 : Int32)), .int (0 : Int32)] rfl rfl (Nat.le_of_ble_eq_true rfl) dB_passYear_8 (kT_get G t1 ht1 z m ((m.1 37 t) - (m.1 37 t) / (5 : Int32) * (5 : Int32)) (0 : Int32)) (fun r8 => ?_)
  refine xR_isn 11 ([(2, .int r8), (0, .ref (xa G (72 + t))), (1, .ref (xa G (36 + t1)))]) dB_passYear_11 rfl (by decide) rfl ?_
  refine xR_aln 12 1 dB_passYear_12 rfl rfl ?_
  refine xR_callVi 13 cv_B_wormyNext ml_RX0_69 ⟨Nat.le_of_ble_eq_true rfl, Nat.le_of_ble_eq_true rfl⟩ xcf0 rfl (72 + t) (xk_B ht) (xC_brd ht) [] rfl rfl (Nat.le_of_ble_eq_true rfl) dB_passYear_13 (kB_wormyNext G t ht z m) (fun r13 => ?_)
  refine xR_isn 16 ([(3, .int r13), (2, .int r8), (0, .ref (xa G (72 + t))), (1, .ref (xa G (36 + t1)))]) dB_passYear_16 rfl (by decide) rfl ?_
  refine xR_ic 17 (0 : Int32) dB_passYear_17 (by decide) ?_
  refine xR_is 18 ([(4, .int (0 : Int32)), (3, .int r13), (2, .int r8), (0, .ref (xa G (72 + t))), (1, .ref (xa G (36 + t1)))]) dB_passYear_18 (by decide) rfl ?_
  exact xR_sub [3, 2, 1, 0] rfl (kB_passYear_l20 G t t1 ht ht1 z xfu r8 r13 (0 : Int32) m)
theorem dB_become_0 : decode (xb yyB_become) 0 = .ok (.aload_n 0, 1) := by decide +kernel
theorem dB_become_1 : decode (xb yyB_become) 1 = .ok (.getfield 14, 3) := by decide +kernel
theorem dB_become_4 : decode (xb yyB_become) 4 = .ok (.aload_n 1, 1) := by decide +kernel
theorem dB_become_5 : decode (xb yyB_become) 5 = .ok (.getfield 14, 3) := by decide +kernel
theorem dB_become_8 : decode (xb yyB_become) 8 = .ok (.invokevirtual 39, 3) := by decide +kernel
theorem dB_become_11 : decode (xb yyB_become) 11 = .ok (.aload_n 0, 1) := by decide +kernel
theorem dB_become_12 : decode (xb yyB_become) 12 = .ok (.aload_n 1, 1) := by decide +kernel
theorem dB_become_13 : decode (xb yyB_become) 13 = .ok (.getfield 35, 3) := by decide +kernel
theorem dB_become_16 : decode (xb yyB_become) 16 = .ok (.putfield 35, 3) := by decide +kernel
theorem dB_become_19 : decode (xb yyB_become) 19 = .ok (.return_, 1) := by decide +kernel
def fB_become (t : Nat) (t1 : Nat) (m : xM) : Option (xM) := (fT_become (xtb t) (xtb t1) m).bind fun r8 => some (xset r8 37 t (r8.1 37 t1))
set_option maxRecDepth 100000 in
set_option maxHeartbeats 4000000 in
theorem kB_become (G : xG) (t : Nat) (t1 : Nat) (ht : t < 5) (ht1 : t1 < 5) (z : xM) (m : xM) : ∀ a, fB_become t t1 m = some a → xCt G yyB_become [.ref (xa G (72 + t)), .ref (xa G (72 + t1))] (m, z) (none) (a, z) := by
  refine xR_ct (em := (emvc z)) rfl (Nat.le_of_ble_eq_true rfl) ?_
  show xR G yyB_become _ 0 [(0, .ref (xa G (72 + t))), (1, .ref (xa G (72 + t1)))] [] _ _
  unfold fB_become
  refine xR_aln 0 0 dB_become_0 rfl rfl ?_
  refine xR_getf 1 xcf0 0 (72 + t) (by decide) (xk_B ht) (xC_brd ht) (v := .ref (xa G (36 + (xtb t)))) rfl fl_RX0_14 dB_become_1 ?_
  refine xR_aln 4 1 dB_become_4 rfl rfl ?_
  refine xR_getf 5 xcf0 0 (72 + t1) (by decide) (xk_B ht1) (xC_brd ht1) (v := .ref (xa G (36 + (xtb t1)))) rfl fl_RX0_14 dB_become_5 ?_
  refine xR_callVvc 8 cv_T_become ml_RX0_39 ⟨Nat.le_of_ble_eq_true rfl, Nat.le_of_ble_eq_true rfl⟩ xcf3 rfl (36 + (xtb t)) (xk_T (xtb_lt ht)) (xC_tab (xtb_lt ht)) [.ref (xa G (36 + (xtb t1)))] rfl rfl (Nat.le_of_ble_eq_true rfl) dB_become_8 (kT_become G (xtb t) (xtb t1) (xtb_lt ht) (xtb_lt ht1) z m) (fun r8 => ?_)
  refine xR_aln 11 0 dB_become_11 rfl rfl ?_
  refine xR_aln 12 1 dB_become_12 rfl rfl ?_
  refine xR_getf 13 xcf0 1 (72 + t1) (by decide) (xk_B ht1) (xC_brd ht1) (v := .int (r8.1 37 t1)) rfl fl_RX0_35 dB_become_13 ?_
  refine xR_putf 16 xcf0 1 (72 + t) (by decide) (xk_B ht) (xC_brd ht) rfl rfl rfl (Nat.le_of_ble_eq_true rfl) ((xset r8 37 t (r8.1 37 t1)), z) (xW_year ht) fl_RX0_35 dB_become_16 ?_
  exact xR_vret 19 rfl rfl dB_become_19
theorem dB_keepIn_0 : decode (xb yyB_keepIn) 0 = .ok (.iconst 0, 1) := by decide +kernel
theorem dB_keepIn_1 : decode (xb yyB_keepIn) 1 = .ok (.istore_n 3, 1) := by decide +kernel
theorem dB_keepIn_2 : decode (xb yyB_keepIn) 2 = .ok (.iload_n 3, 1) := by decide +kernel
theorem dB_keepIn_3 : decode (xb yyB_keepIn) 3 = .ok (.bipush 6, 2) := by decide +kernel
theorem dB_keepIn_5 : decode (xb yyB_keepIn) 5 = .ok (.if_icmp .ge 47, 3) := by decide +kernel
theorem dB_keepIn_8 : decode (xb yyB_keepIn) 8 = .ok (.iconst 0, 1) := by decide +kernel
theorem dB_keepIn_9 : decode (xb yyB_keepIn) 9 = .ok (.istore 4, 2) := by decide +kernel
theorem dB_keepIn_11 : decode (xb yyB_keepIn) 11 = .ok (.iload 4, 2) := by decide +kernel
theorem dB_keepIn_13 : decode (xb yyB_keepIn) 13 = .ok (.bipush 6, 2) := by decide +kernel
theorem dB_keepIn_15 : decode (xb yyB_keepIn) 15 = .ok (.if_icmp .ge 31, 3) := by decide +kernel
theorem dB_keepIn_18 : decode (xb yyB_keepIn) 18 = .ok (.aload_n 1, 1) := by decide +kernel
theorem dB_keepIn_19 : decode (xb yyB_keepIn) 19 = .ok (.iload_n 2, 1) := by decide +kernel
theorem dB_keepIn_20 : decode (xb yyB_keepIn) 20 = .ok (.bipush 6, 2) := by decide +kernel
theorem dB_keepIn_22 : decode (xb yyB_keepIn) 22 = .ok (.iload_n 3, 1) := by decide +kernel
theorem dB_keepIn_23 : decode (xb yyB_keepIn) 23 = .ok (.imul, 1) := by decide +kernel
theorem dB_keepIn_24 : decode (xb yyB_keepIn) 24 = .ok (.iload 4, 2) := by decide +kernel
theorem dB_keepIn_26 : decode (xb yyB_keepIn) 26 = .ok (.iadd, 1) := by decide +kernel
theorem dB_keepIn_27 : decode (xb yyB_keepIn) 27 = .ok (.aload_n 0, 1) := by decide +kernel
theorem dB_keepIn_28 : decode (xb yyB_keepIn) 28 = .ok (.getfield 14, 3) := by decide +kernel
theorem dB_keepIn_31 : decode (xb yyB_keepIn) 31 = .ok (.iload_n 3, 1) := by decide +kernel
theorem dB_keepIn_32 : decode (xb yyB_keepIn) 32 = .ok (.iload 4, 2) := by decide +kernel
theorem dB_keepIn_34 : decode (xb yyB_keepIn) 34 = .ok (.invokevirtual 24, 3) := by decide +kernel
theorem dB_keepIn_37 : decode (xb yyB_keepIn) 37 = .ok (.invokevirtual 28, 3) := by decide +kernel
theorem dB_keepIn_40 : decode (xb yyB_keepIn) 40 = .ok (.iinc 4 1, 3) := by decide +kernel
theorem dB_keepIn_43 : decode (xb yyB_keepIn) 43 = .ok (.goto (-32), 3) := by decide +kernel
theorem dB_keepIn_46 : decode (xb yyB_keepIn) 46 = .ok (.iinc 3 1, 3) := by decide +kernel
theorem dB_keepIn_49 : decode (xb yyB_keepIn) 49 = .ok (.goto (-47), 3) := by decide +kernel
theorem dB_keepIn_52 : decode (xb yyB_keepIn) 52 = .ok (.aload_n 1, 1) := by decide +kernel
theorem dB_keepIn_53 : decode (xb yyB_keepIn) 53 = .ok (.iload_n 2, 1) := by decide +kernel
theorem dB_keepIn_54 : decode (xb yyB_keepIn) 54 = .ok (.bipush 36, 2) := by decide +kernel
theorem dB_keepIn_56 : decode (xb yyB_keepIn) 56 = .ok (.aload_n 0, 1) := by decide +kernel
theorem dB_keepIn_57 : decode (xb yyB_keepIn) 57 = .ok (.getfield 35, 3) := by decide +kernel
theorem dB_keepIn_60 : decode (xb yyB_keepIn) 60 = .ok (.invokevirtual 28, 3) := by decide +kernel
theorem dB_keepIn_63 : decode (xb yyB_keepIn) 63 = .ok (.return_, 1) := by decide +kernel
def fB_keepIn_l11 (t : Nat) (t1 : Nat) (k2 : Int32 → Int32 → xM → Option (xM)) : Nat → Int32 → Int32 → Int32 → xM → Option (xM)
  | 0, _, _, _, _ => none
  | n + 1, v2, v3, v4, m => (if (6 : Int32) ≤ v4 then k2 v2 (v3 + 1) m else (fT_get (xtb t) m v3 v4).bind fun r34 => (fT_put t1 v2 (((6 : Int32) * v3) + v4) r34 m).bind fun r37 => fB_keepIn_l11 t t1 k2 n v2 v3 (v4 + 1) r37)
def fB_keepIn_l2 (t : Nat) (t1 : Nat) : Nat → Int32 → Int32 → xM → Option (xM)
  | 0, _, _, _ => none
  | n + 1, v2, v3, m => (if (6 : Int32) ≤ v3 then (fT_put t1 v2 (36 : Int32) (m.1 37 t) m).bind fun r60 => some r60 else fB_keepIn_l11 t t1 (fB_keepIn_l2 t t1 n) xfu v2 v3 (0 : Int32) m)
def fB_keepIn (t : Nat) (t1 : Nat) (v2 : Int32) (m : xM) : Option (xM) := fB_keepIn_l2 t t1 xfu v2 (0 : Int32) m
set_option maxRecDepth 100000 in
set_option maxHeartbeats 4000000 in
theorem kB_keepIn_l11 (G : xG) (t : Nat) (t1 : Nat) (ht : t < 5) (ht1 : t1 < 36) (z : xM)  (k2 : Int32 → Int32 → xM → Option (xM)) (hk2 : ∀ (v2 : Int32) (v3 : Int32) (m : xM), xR G yyB_keepIn (emvc z) 2 [(0, .ref (xa G (72 + t))), (1, .ref (xa G (36 + t1))), (2, .int v2), (3, .int v3)] [] (m, z) (k2 v2 v3 m)) : ∀ (n : Nat) (v2 : Int32) (v3 : Int32) (v4 : Int32) (m : xM), xR G yyB_keepIn (emvc z) 11 [(0, .ref (xa G (72 + t))), (1, .ref (xa G (36 + t1))), (2, .int v2), (3, .int v3), (4, .int v4)] [] (m, z) (fB_keepIn_l11 t t1 k2 n v2 v3 v4 m) := by
  intro n
  induction n with
  | zero =>
    intro v2 v3 v4 m
    rw [fB_keepIn_l11]
    exact xR_none
  | succ n ih =>
    intro v2 v3 v4 m
    rw [fB_keepIn_l11]
    refine xR_il 11 4 dB_keepIn_11 rfl ?_
    refine xR_bp 13 (6 : Int32) dB_keepIn_13 (by decide) ?_
    refine xR_icge 15 46 dB_keepIn_15 (by decide) ?_ ?_
    · refine xR_iinc 46 3 (v3 + 1) ([(3, .int (v3 + 1)), (0, .ref (xa G (72 + t))), (1, .ref (xa G (36 + t1))), (2, .int v2), (4, .int v4)]) dB_keepIn_46 rfl rfl (by decide) rfl ?_
      refine xR_goto 49 2 dB_keepIn_49 (by decide) ?_
      exact xR_sub [1, 2, 3, 0] rfl (hk2 v2 (v3 + 1) m)
    · refine xR_aln 18 1 dB_keepIn_18 rfl rfl ?_
      refine xR_iln 19 2 dB_keepIn_19 rfl rfl ?_
      refine xR_bp 20 (6 : Int32) dB_keepIn_20 (by decide) ?_
      refine xR_iln 22 3 dB_keepIn_22 rfl rfl ?_
      refine xR_imul 23 dB_keepIn_23 ?_
      refine xR_il 24 4 dB_keepIn_24 rfl ?_
      refine xR_iadd 26 dB_keepIn_26 ?_
      refine xR_aln 27 0 dB_keepIn_27 rfl rfl ?_
      refine xR_getf 28 xcf0 0 (72 + t) (by decide) (xk_B ht) (xC_brd ht) (v := .ref (xa G (36 + (xtb t)))) rfl fl_RX0_14 dB_keepIn_28 ?_
      refine xR_iln 31 3 dB_keepIn_31 rfl rfl ?_
      refine xR_il 32 4 dB_keepIn_32 rfl ?_
      refine xR_callVi 34 cv_T_get ml_RX0_24 ⟨Nat.le_of_ble_eq_true rfl, Nat.le_of_ble_eq_true rfl⟩ xcf3 rfl (36 + (xtb t)) (xk_T (xtb_lt ht)) (xC_tab (xtb_lt ht)) [.int v3, .int v4] rfl rfl (Nat.le_of_ble_eq_true rfl) dB_keepIn_34 (kT_get G (xtb t) (xtb_lt ht) z m v3 v4) (fun r34 => ?_)
      refine xR_callVvc 37 cv_T_put ml_RX0_28 ⟨Nat.le_of_ble_eq_true rfl, Nat.le_of_ble_eq_true rfl⟩ xcf3 rfl (36 + t1) (xk_T ht1) (xC_tab ht1) [.int v2, .int (((6 : Int32) * v3) + v4), .int r34] rfl rfl (Nat.le_of_ble_eq_true rfl) dB_keepIn_37 (kT_put G t1 ht1 z m v2 (((6 : Int32) * v3) + v4) r34) (fun r37 => ?_)
      refine xR_iinc 40 4 (v4 + 1) ([(4, .int (v4 + 1)), (0, .ref (xa G (72 + t))), (1, .ref (xa G (36 + t1))), (2, .int v2), (3, .int v3)]) dB_keepIn_40 rfl rfl (by decide) rfl ?_
      refine xR_goto 43 11 dB_keepIn_43 (by decide) ?_
      exact xR_sub [1, 2, 3, 4, 0] rfl (ih v2 v3 (v4 + 1) r37)
set_option maxRecDepth 100000 in
set_option maxHeartbeats 4000000 in
theorem kB_keepIn_l2 (G : xG) (t : Nat) (t1 : Nat) (ht : t < 5) (ht1 : t1 < 36) (z : xM)    : ∀ (n : Nat) (v2 : Int32) (v3 : Int32) (m : xM), xR G yyB_keepIn (emvc z) 2 [(0, .ref (xa G (72 + t))), (1, .ref (xa G (36 + t1))), (2, .int v2), (3, .int v3)] [] (m, z) (fB_keepIn_l2 t t1 n v2 v3 m) := by
  intro n
  induction n with
  | zero =>
    intro v2 v3 m
    rw [fB_keepIn_l2]
    exact xR_none
  | succ n ih =>
    intro v2 v3 m
    rw [fB_keepIn_l2]
    refine xR_iln 2 3 dB_keepIn_2 rfl rfl ?_
    refine xR_bp 3 (6 : Int32) dB_keepIn_3 (by decide) ?_
    refine xR_icge 5 52 dB_keepIn_5 (by decide) ?_ ?_
    · refine xR_aln 52 1 dB_keepIn_52 rfl rfl ?_
      refine xR_iln 53 2 dB_keepIn_53 rfl rfl ?_
      refine xR_bp 54 (36 : Int32) dB_keepIn_54 (by decide) ?_
      refine xR_aln 56 0 dB_keepIn_56 rfl rfl ?_
      refine xR_getf 57 xcf0 1 (72 + t) (by decide) (xk_B ht) (xC_brd ht) (v := .int (m.1 37 t)) rfl fl_RX0_35 dB_keepIn_57 ?_
      refine xR_callVvc 60 cv_T_put ml_RX0_28 ⟨Nat.le_of_ble_eq_true rfl, Nat.le_of_ble_eq_true rfl⟩ xcf3 rfl (36 + t1) (xk_T ht1) (xC_tab ht1) [.int v2, .int (36 : Int32), .int (m.1 37 t)] rfl rfl (Nat.le_of_ble_eq_true rfl) dB_keepIn_60 (kT_put G t1 ht1 z m v2 (36 : Int32) (m.1 37 t)) (fun r60 => ?_)
      exact xR_vret 63 rfl rfl dB_keepIn_63
    · refine xR_ic 8 (0 : Int32) dB_keepIn_8 (by decide) ?_
      refine xR_is 9 ([(4, .int (0 : Int32)), (0, .ref (xa G (72 + t))), (1, .ref (xa G (36 + t1))), (2, .int v2), (3, .int v3)]) dB_keepIn_9 (by decide) rfl ?_
      exact xR_sub [1, 2, 3, 4, 0] rfl (kB_keepIn_l11 G t t1 ht ht1 z (fB_keepIn_l2 t t1 n) ih xfu v2 v3 (0 : Int32) m)
set_option maxRecDepth 100000 in
set_option maxHeartbeats 4000000 in
theorem kB_keepIn (G : xG) (t : Nat) (t1 : Nat) (ht : t < 5) (ht1 : t1 < 36) (z : xM) (m : xM) (v2 : Int32) : ∀ a, fB_keepIn t t1 v2 m = some a → xCt G yyB_keepIn [.ref (xa G (72 + t)), .ref (xa G (36 + t1)), .int v2] (m, z) (none) (a, z) := by
  refine xR_ct (em := (emvc z)) rfl (Nat.le_of_ble_eq_true rfl) ?_
  show xR G yyB_keepIn _ 0 [(0, .ref (xa G (72 + t))), (1, .ref (xa G (36 + t1))), (2, .int v2)] [] _ _
  unfold fB_keepIn
  refine xR_ic 0 (0 : Int32) dB_keepIn_0 (by decide) ?_
  refine xR_isn 1 ([(3, .int (0 : Int32)), (0, .ref (xa G (72 + t))), (1, .ref (xa G (36 + t1))), (2, .int v2)]) dB_keepIn_1 rfl (by decide) rfl ?_
  exact xR_sub [1, 2, 3, 0] rfl (kB_keepIn_l2 G t t1 ht ht1 z xfu v2 (0 : Int32) m)
theorem dB_wormy_0 : decode (xb yyB_wormy) 0 = .ok (.iconst 0, 1) := by decide +kernel
theorem dB_wormy_1 : decode (xb yyB_wormy) 1 = .ok (.istore_n 1, 1) := by decide +kernel
theorem dB_wormy_2 : decode (xb yyB_wormy) 2 = .ok (.iconst 0, 1) := by decide +kernel
theorem dB_wormy_3 : decode (xb yyB_wormy) 3 = .ok (.istore_n 2, 1) := by decide +kernel
theorem dB_wormy_4 : decode (xb yyB_wormy) 4 = .ok (.iload_n 2, 1) := by decide +kernel
theorem dB_wormy_5 : decode (xb yyB_wormy) 5 = .ok (.aload_n 0, 1) := by decide +kernel
theorem dB_wormy_6 : decode (xb yyB_wormy) 6 = .ok (.getfield 14, 3) := by decide +kernel
theorem dB_wormy_9 : decode (xb yyB_wormy) 9 = .ok (.invokevirtual 20, 3) := by decide +kernel
theorem dB_wormy_12 : decode (xb yyB_wormy) 12 = .ok (.if_icmp .ge 21, 3) := by decide +kernel
theorem dB_wormy_15 : decode (xb yyB_wormy) 15 = .ok (.iload_n 1, 1) := by decide +kernel
theorem dB_wormy_16 : decode (xb yyB_wormy) 16 = .ok (.aload_n 0, 1) := by decide +kernel
theorem dB_wormy_17 : decode (xb yyB_wormy) 17 = .ok (.getfield 14, 3) := by decide +kernel
theorem dB_wormy_20 : decode (xb yyB_wormy) 20 = .ok (.iload_n 2, 1) := by decide +kernel
theorem dB_wormy_21 : decode (xb yyB_wormy) 21 = .ok (.iconst 4, 1) := by decide +kernel
theorem dB_wormy_22 : decode (xb yyB_wormy) 22 = .ok (.invokevirtual 24, 3) := by decide +kernel
theorem dB_wormy_25 : decode (xb yyB_wormy) 25 = .ok (.iadd, 1) := by decide +kernel
theorem dB_wormy_26 : decode (xb yyB_wormy) 26 = .ok (.istore_n 1, 1) := by decide +kernel
theorem dB_wormy_27 : decode (xb yyB_wormy) 27 = .ok (.iinc 2 1, 3) := by decide +kernel
theorem dB_wormy_30 : decode (xb yyB_wormy) 30 = .ok (.goto (-26), 3) := by decide +kernel
theorem dB_wormy_33 : decode (xb yyB_wormy) 33 = .ok (.iload_n 1, 1) := by decide +kernel
theorem dB_wormy_34 : decode (xb yyB_wormy) 34 = .ok (.ireturn, 1) := by decide +kernel
def fB_wormy_l4 (t : Nat) (m : xM) : Nat → Int32 → Int32 → Option (Int32)
  | 0, _, _ => none
  | n + 1, v1, v2 => (fT_many (xtb t) m).bind fun r9 => (if r9 ≤ v2 then some v1 else (fT_get (xtb t) m v2 (4 : Int32)).bind fun r22 => fB_wormy_l4 t m n (v1 + r22) (v2 + 1))
def fB_wormy (t : Nat) (m : xM) : Option (Int32) := fB_wormy_l4 t m xfu (0 : Int32) (0 : Int32)
set_option maxRecDepth 100000 in
set_option maxHeartbeats 4000000 in
theorem kB_wormy_l4 (G : xG) (t : Nat) (ht : t < 5) (z : xM) (m : xM)   : ∀ (n : Nat) (v1 : Int32) (v2 : Int32), xR G yyB_wormy (emi (m, z)) 4 [(0, .ref (xa G (72 + t))), (1, .int v1), (2, .int v2)] [] (m, z) (fB_wormy_l4 t m n v1 v2) := by
  intro n
  induction n with
  | zero =>
    intro v1 v2
    rw [fB_wormy_l4]
    exact xR_none
  | succ n ih =>
    intro v1 v2
    rw [fB_wormy_l4]
    refine xR_iln 4 2 dB_wormy_4 rfl rfl ?_
    refine xR_aln 5 0 dB_wormy_5 rfl rfl ?_
    refine xR_getf 6 xcf0 0 (72 + t) (by decide) (xk_B ht) (xC_brd ht) (v := .ref (xa G (36 + (xtb t)))) rfl fl_RX0_14 dB_wormy_6 ?_
    refine xR_callVi 9 cv_T_many ml_RX0_20 ⟨Nat.le_of_ble_eq_true rfl, Nat.le_of_ble_eq_true rfl⟩ xcf3 rfl (36 + (xtb t)) (xk_T (xtb_lt ht)) (xC_tab (xtb_lt ht)) [] rfl rfl (Nat.le_of_ble_eq_true rfl) dB_wormy_9 (kT_many G (xtb t) (xtb_lt ht) z m) (fun r9 => ?_)
    refine xR_icge 12 33 dB_wormy_12 (by decide) ?_ ?_
    · refine xR_iln 33 1 dB_wormy_33 rfl rfl ?_
      exact xR_iret 34 rfl rfl dB_wormy_34
    · refine xR_iln 15 1 dB_wormy_15 rfl rfl ?_
      refine xR_aln 16 0 dB_wormy_16 rfl rfl ?_
      refine xR_getf 17 xcf0 0 (72 + t) (by decide) (xk_B ht) (xC_brd ht) (v := .ref (xa G (36 + (xtb t)))) rfl fl_RX0_14 dB_wormy_17 ?_
      refine xR_iln 20 2 dB_wormy_20 rfl rfl ?_
      refine xR_ic 21 (4 : Int32) dB_wormy_21 (by decide) ?_
      refine xR_callVi 22 cv_T_get ml_RX0_24 ⟨Nat.le_of_ble_eq_true rfl, Nat.le_of_ble_eq_true rfl⟩ xcf3 rfl (36 + (xtb t)) (xk_T (xtb_lt ht)) (xC_tab (xtb_lt ht)) [.int v2, .int (4 : Int32)] rfl rfl (Nat.le_of_ble_eq_true rfl) dB_wormy_22 (kT_get G (xtb t) (xtb_lt ht) z m v2 (4 : Int32)) (fun r22 => ?_)
      refine xR_iadd 25 dB_wormy_25 ?_
      refine xR_isn 26 ([(1, .int (v1 + r22)), (0, .ref (xa G (72 + t))), (2, .int v2)]) dB_wormy_26 rfl (by decide) rfl ?_
      refine xR_iinc 27 2 (v2 + 1) ([(2, .int (v2 + 1)), (1, .int (v1 + r22)), (0, .ref (xa G (72 + t)))]) dB_wormy_27 rfl rfl (by decide) rfl ?_
      refine xR_goto 30 4 dB_wormy_30 (by decide) ?_
      exact xR_sub [2, 1, 0] rfl (ih (v1 + r22) (v2 + 1))
set_option maxRecDepth 100000 in
set_option maxHeartbeats 4000000 in
theorem kB_wormy (G : xG) (t : Nat) (ht : t < 5) (z : xM) (m : xM) : ∀ a, fB_wormy t m  = some a → xCt G yyB_wormy [.ref (xa G (72 + t))] (m, z) (some (.int a)) (m, z) := by
  refine xR_ct (em := (emi (m, z))) rfl (Nat.le_of_ble_eq_true rfl) ?_
  show xR G yyB_wormy _ 0 [(0, .ref (xa G (72 + t)))] [] _ _
  unfold fB_wormy
  refine xR_ic 0 (0 : Int32) dB_wormy_0 (by decide) ?_
  refine xR_isn 1 ([(1, .int (0 : Int32)), (0, .ref (xa G (72 + t)))]) dB_wormy_1 rfl (by decide) rfl ?_
  refine xR_ic 2 (0 : Int32) dB_wormy_2 (by decide) ?_
  refine xR_isn 3 ([(2, .int (0 : Int32)), (1, .int (0 : Int32)), (0, .ref (xa G (72 + t)))]) dB_wormy_3 rfl (by decide) rfl ?_
  exact xR_sub [2, 1, 0] rfl (kB_wormy_l4 G t ht z m xfu (0 : Int32) (0 : Int32))
theorem dB_goBackTo_0 : decode (xb yyB_goBackTo) 0 = .ok (.iconst 0, 1) := by decide +kernel
theorem dB_goBackTo_1 : decode (xb yyB_goBackTo) 1 = .ok (.istore_n 3, 1) := by decide +kernel
theorem dB_goBackTo_2 : decode (xb yyB_goBackTo) 2 = .ok (.iload_n 3, 1) := by decide +kernel
theorem dB_goBackTo_3 : decode (xb yyB_goBackTo) 3 = .ok (.bipush 6, 2) := by decide +kernel
theorem dB_goBackTo_5 : decode (xb yyB_goBackTo) 5 = .ok (.if_icmp .ge 47, 3) := by decide +kernel
theorem dB_goBackTo_8 : decode (xb yyB_goBackTo) 8 = .ok (.iconst 0, 1) := by decide +kernel
theorem dB_goBackTo_9 : decode (xb yyB_goBackTo) 9 = .ok (.istore 4, 2) := by decide +kernel
theorem dB_goBackTo_11 : decode (xb yyB_goBackTo) 11 = .ok (.iload 4, 2) := by decide +kernel
theorem dB_goBackTo_13 : decode (xb yyB_goBackTo) 13 = .ok (.bipush 6, 2) := by decide +kernel
theorem dB_goBackTo_15 : decode (xb yyB_goBackTo) 15 = .ok (.if_icmp .ge 31, 3) := by decide +kernel
theorem dB_goBackTo_18 : decode (xb yyB_goBackTo) 18 = .ok (.aload_n 0, 1) := by decide +kernel
theorem dB_goBackTo_19 : decode (xb yyB_goBackTo) 19 = .ok (.getfield 14, 3) := by decide +kernel
theorem dB_goBackTo_22 : decode (xb yyB_goBackTo) 22 = .ok (.iload_n 3, 1) := by decide +kernel
theorem dB_goBackTo_23 : decode (xb yyB_goBackTo) 23 = .ok (.iload 4, 2) := by decide +kernel
theorem dB_goBackTo_25 : decode (xb yyB_goBackTo) 25 = .ok (.aload_n 1, 1) := by decide +kernel
theorem dB_goBackTo_26 : decode (xb yyB_goBackTo) 26 = .ok (.iload_n 2, 1) := by decide +kernel
theorem dB_goBackTo_27 : decode (xb yyB_goBackTo) 27 = .ok (.bipush 6, 2) := by decide +kernel
theorem dB_goBackTo_29 : decode (xb yyB_goBackTo) 29 = .ok (.iload_n 3, 1) := by decide +kernel
theorem dB_goBackTo_30 : decode (xb yyB_goBackTo) 30 = .ok (.imul, 1) := by decide +kernel
theorem dB_goBackTo_31 : decode (xb yyB_goBackTo) 31 = .ok (.iload 4, 2) := by decide +kernel
theorem dB_goBackTo_33 : decode (xb yyB_goBackTo) 33 = .ok (.iadd, 1) := by decide +kernel
theorem dB_goBackTo_34 : decode (xb yyB_goBackTo) 34 = .ok (.invokevirtual 24, 3) := by decide +kernel
theorem dB_goBackTo_37 : decode (xb yyB_goBackTo) 37 = .ok (.invokevirtual 28, 3) := by decide +kernel
theorem dB_goBackTo_40 : decode (xb yyB_goBackTo) 40 = .ok (.iinc 4 1, 3) := by decide +kernel
theorem dB_goBackTo_43 : decode (xb yyB_goBackTo) 43 = .ok (.goto (-32), 3) := by decide +kernel
theorem dB_goBackTo_46 : decode (xb yyB_goBackTo) 46 = .ok (.iinc 3 1, 3) := by decide +kernel
theorem dB_goBackTo_49 : decode (xb yyB_goBackTo) 49 = .ok (.goto (-47), 3) := by decide +kernel
theorem dB_goBackTo_52 : decode (xb yyB_goBackTo) 52 = .ok (.aload_n 0, 1) := by decide +kernel
theorem dB_goBackTo_53 : decode (xb yyB_goBackTo) 53 = .ok (.aload_n 1, 1) := by decide +kernel
theorem dB_goBackTo_54 : decode (xb yyB_goBackTo) 54 = .ok (.iload_n 2, 1) := by decide +kernel
theorem dB_goBackTo_55 : decode (xb yyB_goBackTo) 55 = .ok (.bipush 36, 2) := by decide +kernel
theorem dB_goBackTo_57 : decode (xb yyB_goBackTo) 57 = .ok (.invokevirtual 24, 3) := by decide +kernel
theorem dB_goBackTo_60 : decode (xb yyB_goBackTo) 60 = .ok (.putfield 35, 3) := by decide +kernel
theorem dB_goBackTo_63 : decode (xb yyB_goBackTo) 63 = .ok (.return_, 1) := by decide +kernel
def fB_goBackTo_l11 (t : Nat) (t1 : Nat) (k2 : Int32 → Int32 → xM → Option (xM)) : Nat → Int32 → Int32 → Int32 → xM → Option (xM)
  | 0, _, _, _, _ => none
  | n + 1, v2, v3, v4, m => (if (6 : Int32) ≤ v4 then k2 v2 (v3 + 1) m else (fT_get t1 m v2 (((6 : Int32) * v3) + v4)).bind fun r34 => (fT_put (xtb t) v3 v4 r34 m).bind fun r37 => fB_goBackTo_l11 t t1 k2 n v2 v3 (v4 + 1) r37)
def fB_goBackTo_l2 (t : Nat) (t1 : Nat) : Nat → Int32 → Int32 → xM → Option (xM)
  | 0, _, _, _ => none
  | n + 1, v2, v3, m => (if (6 : Int32) ≤ v3 then (fT_get t1 m v2 (36 : Int32)).bind fun r57 => some (xset m 37 t r57) else fB_goBackTo_l11 t t1 (fB_goBackTo_l2 t t1 n) xfu v2 v3 (0 : Int32) m)
def fB_goBackTo (t : Nat) (t1 : Nat) (v2 : Int32) (m : xM) : Option (xM) := fB_goBackTo_l2 t t1 xfu v2 (0 : Int32) m
set_option maxRecDepth 100000 in
set_option maxHeartbeats 4000000 in
theorem kB_goBackTo_l11 (G : xG) (t : Nat) (t1 : Nat) (ht : t < 5) (ht1 : t1 < 36) (z : xM)  (k2 : Int32 → Int32 → xM → Option (xM)) (hk2 : ∀ (v2 : Int32) (v3 : Int32) (m : xM), xR G yyB_goBackTo (emvc z) 2 [(0, .ref (xa G (72 + t))), (1, .ref (xa G (36 + t1))), (2, .int v2), (3, .int v3)] [] (m, z) (k2 v2 v3 m)) : ∀ (n : Nat) (v2 : Int32) (v3 : Int32) (v4 : Int32) (m : xM), xR G yyB_goBackTo (emvc z) 11 [(0, .ref (xa G (72 + t))), (1, .ref (xa G (36 + t1))), (2, .int v2), (3, .int v3), (4, .int v4)] [] (m, z) (fB_goBackTo_l11 t t1 k2 n v2 v3 v4 m) := by
  intro n
  induction n with
  | zero =>
    intro v2 v3 v4 m
    rw [fB_goBackTo_l11]
    exact xR_none
  | succ n ih =>
    intro v2 v3 v4 m
    rw [fB_goBackTo_l11]
    refine xR_il 11 4 dB_goBackTo_11 rfl ?_
    refine xR_bp 13 (6 : Int32) dB_goBackTo_13 (by decide) ?_
    refine xR_icge 15 46 dB_goBackTo_15 (by decide) ?_ ?_
    · refine xR_iinc 46 3 (v3 + 1) ([(3, .int (v3 + 1)), (0, .ref (xa G (72 + t))), (1, .ref (xa G (36 + t1))), (2, .int v2), (4, .int v4)]) dB_goBackTo_46 rfl rfl (by decide) rfl ?_
      refine xR_goto 49 2 dB_goBackTo_49 (by decide) ?_
      exact xR_sub [1, 2, 3, 0] rfl (hk2 v2 (v3 + 1) m)
    · refine xR_aln 18 0 dB_goBackTo_18 rfl rfl ?_
      refine xR_getf 19 xcf0 0 (72 + t) (by decide) (xk_B ht) (xC_brd ht) (v := .ref (xa G (36 + (xtb t)))) rfl fl_RX0_14 dB_goBackTo_19 ?_
      refine xR_iln 22 3 dB_goBackTo_22 rfl rfl ?_
      refine xR_il 23 4 dB_goBackTo_23 rfl ?_
      refine xR_aln 25 1 dB_goBackTo_25 rfl rfl ?_
      refine xR_iln 26 2 dB_goBackTo_26 rfl rfl ?_
      refine xR_bp 27 (6 : Int32) dB_goBackTo_27 (by decide) ?_
      refine xR_iln 29 3 dB_goBackTo_29 rfl rfl ?_
      refine xR_imul 30 dB_goBackTo_30 ?_
      refine xR_il 31 4 dB_goBackTo_31 rfl ?_
      refine xR_iadd 33 dB_goBackTo_33 ?_
      refine xR_callVi 34 cv_T_get ml_RX0_24 ⟨Nat.le_of_ble_eq_true rfl, Nat.le_of_ble_eq_true rfl⟩ xcf3 rfl (36 + t1) (xk_T ht1) (xC_tab ht1) [.int v2, .int (((6 : Int32) * v3) + v4)] rfl rfl (Nat.le_of_ble_eq_true rfl) dB_goBackTo_34 (kT_get G t1 ht1 z m v2 (((6 : Int32) * v3) + v4)) (fun r34 => ?_)
      refine xR_callVvc 37 cv_T_put ml_RX0_28 ⟨Nat.le_of_ble_eq_true rfl, Nat.le_of_ble_eq_true rfl⟩ xcf3 rfl (36 + (xtb t)) (xk_T (xtb_lt ht)) (xC_tab (xtb_lt ht)) [.int v3, .int v4, .int r34] rfl rfl (Nat.le_of_ble_eq_true rfl) dB_goBackTo_37 (kT_put G (xtb t) (xtb_lt ht) z m v3 v4 r34) (fun r37 => ?_)
      refine xR_iinc 40 4 (v4 + 1) ([(4, .int (v4 + 1)), (0, .ref (xa G (72 + t))), (1, .ref (xa G (36 + t1))), (2, .int v2), (3, .int v3)]) dB_goBackTo_40 rfl rfl (by decide) rfl ?_
      refine xR_goto 43 11 dB_goBackTo_43 (by decide) ?_
      exact xR_sub [1, 2, 3, 4, 0] rfl (ih v2 v3 (v4 + 1) r37)
set_option maxRecDepth 100000 in
set_option maxHeartbeats 4000000 in
theorem kB_goBackTo_l2 (G : xG) (t : Nat) (t1 : Nat) (ht : t < 5) (ht1 : t1 < 36) (z : xM)    : ∀ (n : Nat) (v2 : Int32) (v3 : Int32) (m : xM), xR G yyB_goBackTo (emvc z) 2 [(0, .ref (xa G (72 + t))), (1, .ref (xa G (36 + t1))), (2, .int v2), (3, .int v3)] [] (m, z) (fB_goBackTo_l2 t t1 n v2 v3 m) := by
  intro n
  induction n with
  | zero =>
    intro v2 v3 m
    rw [fB_goBackTo_l2]
    exact xR_none
  | succ n ih =>
    intro v2 v3 m
    rw [fB_goBackTo_l2]
    refine xR_iln 2 3 dB_goBackTo_2 rfl rfl ?_
    refine xR_bp 3 (6 : Int32) dB_goBackTo_3 (by decide) ?_
    refine xR_icge 5 52 dB_goBackTo_5 (by decide) ?_ ?_
    · refine xR_aln 52 0 dB_goBackTo_52 rfl rfl ?_
      refine xR_aln 53 1 dB_goBackTo_53 rfl rfl ?_
      refine xR_iln 54 2 dB_goBackTo_54 rfl rfl ?_
      refine xR_bp 55 (36 : Int32) dB_goBackTo_55 (by decide) ?_
      refine xR_callVi 57 cv_T_get ml_RX0_24 ⟨Nat.le_of_ble_eq_true rfl, Nat.le_of_ble_eq_true rfl⟩ xcf3 rfl (36 + t1) (xk_T ht1) (xC_tab ht1) [.int v2, .int (36 : Int32)] rfl rfl (Nat.le_of_ble_eq_true rfl) dB_goBackTo_57 (kT_get G t1 ht1 z m v2 (36 : Int32)) (fun r57 => ?_)
      refine xR_putf 60 xcf0 1 (72 + t) (by decide) (xk_B ht) (xC_brd ht) rfl rfl rfl (Nat.le_of_ble_eq_true rfl) ((xset m 37 t r57), z) (xW_year ht) fl_RX0_35 dB_goBackTo_60 ?_
      exact xR_vret 63 rfl rfl dB_goBackTo_63
    · refine xR_ic 8 (0 : Int32) dB_goBackTo_8 (by decide) ?_
      refine xR_is 9 ([(4, .int (0 : Int32)), (0, .ref (xa G (72 + t))), (1, .ref (xa G (36 + t1))), (2, .int v2), (3, .int v3)]) dB_goBackTo_9 (by decide) rfl ?_
      exact xR_sub [1, 2, 3, 4, 0] rfl (kB_goBackTo_l11 G t t1 ht ht1 z (fB_goBackTo_l2 t t1 n) ih xfu v2 v3 (0 : Int32) m)
set_option maxRecDepth 100000 in
set_option maxHeartbeats 4000000 in
theorem kB_goBackTo (G : xG) (t : Nat) (t1 : Nat) (ht : t < 5) (ht1 : t1 < 36) (z : xM) (m : xM) (v2 : Int32) : ∀ a, fB_goBackTo t t1 v2 m = some a → xCt G yyB_goBackTo [.ref (xa G (72 + t)), .ref (xa G (36 + t1)), .int v2] (m, z) (none) (a, z) := by
  refine xR_ct (em := (emvc z)) rfl (Nat.le_of_ble_eq_true rfl) ?_
  show xR G yyB_goBackTo _ 0 [(0, .ref (xa G (72 + t))), (1, .ref (xa G (36 + t1))), (2, .int v2)] [] _ _
  unfold fB_goBackTo
  refine xR_ic 0 (0 : Int32) dB_goBackTo_0 (by decide) ?_
  refine xR_isn 1 ([(3, .int (0 : Int32)), (0, .ref (xa G (72 + t))), (1, .ref (xa G (36 + t1))), (2, .int v2)]) dB_goBackTo_1 rfl (by decide) rfl ?_
  exact xR_sub [1, 2, 3, 0] rfl (kB_goBackTo_l2 G t t1 ht ht1 z xfu v2 (0 : Int32) m)
theorem dB_housesIn_0 : decode (xb yyB_housesIn) 0 = .ok (.iconst 0, 1) := by decide +kernel
theorem dB_housesIn_1 : decode (xb yyB_housesIn) 1 = .ok (.istore_n 2, 1) := by decide +kernel
theorem dB_housesIn_2 : decode (xb yyB_housesIn) 2 = .ok (.iconst 0, 1) := by decide +kernel
theorem dB_housesIn_3 : decode (xb yyB_housesIn) 3 = .ok (.istore_n 3, 1) := by decide +kernel
theorem dB_housesIn_4 : decode (xb yyB_housesIn) 4 = .ok (.iload_n 3, 1) := by decide +kernel
theorem dB_housesIn_5 : decode (xb yyB_housesIn) 5 = .ok (.aload_n 0, 1) := by decide +kernel
theorem dB_housesIn_6 : decode (xb yyB_housesIn) 6 = .ok (.getfield 14, 3) := by decide +kernel
theorem dB_housesIn_9 : decode (xb yyB_housesIn) 9 = .ok (.invokevirtual 20, 3) := by decide +kernel
theorem dB_housesIn_12 : decode (xb yyB_housesIn) 12 = .ok (.if_icmp .ge 36, 3) := by decide +kernel
theorem dB_housesIn_15 : decode (xb yyB_housesIn) 15 = .ok (.aload_n 0, 1) := by decide +kernel
theorem dB_housesIn_16 : decode (xb yyB_housesIn) 16 = .ok (.getfield 14, 3) := by decide +kernel
theorem dB_housesIn_19 : decode (xb yyB_housesIn) 19 = .ok (.iload_n 3, 1) := by decide +kernel
theorem dB_housesIn_20 : decode (xb yyB_housesIn) 20 = .ok (.iconst 5, 1) := by decide +kernel
theorem dB_housesIn_21 : decode (xb yyB_housesIn) 21 = .ok (.invokevirtual 24, 3) := by decide +kernel
theorem dB_housesIn_24 : decode (xb yyB_housesIn) 24 = .ok (.iload_n 1, 1) := by decide +kernel
theorem dB_housesIn_25 : decode (xb yyB_housesIn) 25 = .ok (.if_icmp .ne 17, 3) := by decide +kernel
theorem dB_housesIn_28 : decode (xb yyB_housesIn) 28 = .ok (.iload_n 2, 1) := by decide +kernel
theorem dB_housesIn_29 : decode (xb yyB_housesIn) 29 = .ok (.iconst 1, 1) := by decide +kernel
theorem dB_housesIn_30 : decode (xb yyB_housesIn) 30 = .ok (.aload_n 0, 1) := by decide +kernel
theorem dB_housesIn_31 : decode (xb yyB_housesIn) 31 = .ok (.getfield 14, 3) := by decide +kernel
theorem dB_housesIn_34 : decode (xb yyB_housesIn) 34 = .ok (.iload_n 3, 1) := by decide +kernel
theorem dB_housesIn_35 : decode (xb yyB_housesIn) 35 = .ok (.iconst 3, 1) := by decide +kernel
theorem dB_housesIn_36 : decode (xb yyB_housesIn) 36 = .ok (.invokevirtual 24, 3) := by decide +kernel
theorem dB_housesIn_39 : decode (xb yyB_housesIn) 39 = .ok (.ishl, 1) := by decide +kernel
theorem dB_housesIn_40 : decode (xb yyB_housesIn) 40 = .ok (.ior, 1) := by decide +kernel
theorem dB_housesIn_41 : decode (xb yyB_housesIn) 41 = .ok (.istore_n 2, 1) := by decide +kernel
theorem dB_housesIn_42 : decode (xb yyB_housesIn) 42 = .ok (.iinc 3 1, 3) := by decide +kernel
theorem dB_housesIn_45 : decode (xb yyB_housesIn) 45 = .ok (.goto (-41), 3) := by decide +kernel
theorem dB_housesIn_48 : decode (xb yyB_housesIn) 48 = .ok (.iload_n 2, 1) := by decide +kernel
theorem dB_housesIn_49 : decode (xb yyB_housesIn) 49 = .ok (.invokestatic 50, 3) := by decide +kernel
theorem dB_housesIn_52 : decode (xb yyB_housesIn) 52 = .ok (.ireturn, 1) := by decide +kernel
def fB_housesIn_b42 (t : Nat) (m : xM) (k4 : Int32 → Int32 → Int32 → Option (Int32)) (v1 : Int32) (v2 : Int32) (v3 : Int32) : Option (Int32) := k4 v1 v2 (v3 + 1)
def fB_housesIn_l4 (t : Nat) (m : xM) : Nat → Int32 → Int32 → Int32 → Option (Int32)
  | 0, _, _, _ => none
  | n + 1, v1, v2, v3 => (fT_many (xtb t) m).bind fun r9 => (if r9 ≤ v3 then (fJ_bitCount v2).bind fun r49 => some r49 else (fT_get (xtb t) m v3 (5 : Int32)).bind fun r21 => (if r21 = v1 then (fT_get (xtb t) m v3 (3 : Int32)).bind fun r36 => fB_housesIn_b42 t m (fB_housesIn_l4 t m n) v1 (v2 ||| ((1 : Int32) <<< (r36 &&& 31))) v3 else fB_housesIn_b42 t m (fB_housesIn_l4 t m n) v1 v2 v3))
def fB_housesIn (t : Nat) (m : xM) (v1 : Int32) : Option (Int32) := fB_housesIn_l4 t m xfu v1 (0 : Int32) (0 : Int32)
set_option maxRecDepth 100000 in
set_option maxHeartbeats 4000000 in
theorem kB_housesIn_b42 (G : xG) (t : Nat) (ht : t < 5) (z : xM) (m : xM) (k4 : Int32 → Int32 → Int32 → Option (Int32)) (hk4 : ∀ (v1 : Int32) (v2 : Int32) (v3 : Int32), xR G yyB_housesIn (emi (m, z)) 4 [(0, .ref (xa G (72 + t))), (1, .int v1), (2, .int v2), (3, .int v3)] [] (m, z) (k4 v1 v2 v3)) (v1 : Int32) (v2 : Int32) (v3 : Int32) : xR G yyB_housesIn (emi (m, z)) 42 [(0, .ref (xa G (72 + t))), (1, .int v1), (2, .int v2), (3, .int v3)] [] (m, z) (fB_housesIn_b42 t m k4 v1 v2 v3) := by
  unfold fB_housesIn_b42
  refine xR_iinc 42 3 (v3 + 1) ([(3, .int (v3 + 1)), (0, .ref (xa G (72 + t))), (1, .int v1), (2, .int v2)]) dB_housesIn_42 rfl rfl (by decide) rfl ?_
  refine xR_goto 45 4 dB_housesIn_45 (by decide) ?_
  exact xR_sub [1, 2, 3, 0] rfl (hk4 v1 v2 (v3 + 1))
set_option maxRecDepth 100000 in
set_option maxHeartbeats 4000000 in
theorem kB_housesIn_l4 (G : xG) (t : Nat) (ht : t < 5) (z : xM) (m : xM)   : ∀ (n : Nat) (v1 : Int32) (v2 : Int32) (v3 : Int32), xR G yyB_housesIn (emi (m, z)) 4 [(0, .ref (xa G (72 + t))), (1, .int v1), (2, .int v2), (3, .int v3)] [] (m, z) (fB_housesIn_l4 t m n v1 v2 v3) := by
  intro n
  induction n with
  | zero =>
    intro v1 v2 v3
    rw [fB_housesIn_l4]
    exact xR_none
  | succ n ih =>
    intro v1 v2 v3
    rw [fB_housesIn_l4]
    refine xR_iln 4 3 dB_housesIn_4 rfl rfl ?_
    refine xR_aln 5 0 dB_housesIn_5 rfl rfl ?_
    refine xR_getf 6 xcf0 0 (72 + t) (by decide) (xk_B ht) (xC_brd ht) (v := .ref (xa G (36 + (xtb t)))) rfl fl_RX0_14 dB_housesIn_6 ?_
    refine xR_callVi 9 cv_T_many ml_RX0_20 ⟨Nat.le_of_ble_eq_true rfl, Nat.le_of_ble_eq_true rfl⟩ xcf3 rfl (36 + (xtb t)) (xk_T (xtb_lt ht)) (xC_tab (xtb_lt ht)) [] rfl rfl (Nat.le_of_ble_eq_true rfl) dB_housesIn_9 (kT_many G (xtb t) (xtb_lt ht) z m) (fun r9 => ?_)
    refine xR_icge 12 48 dB_housesIn_12 (by decide) ?_ ?_
    · refine xR_iln 48 2 dB_housesIn_48 rfl rfl ?_
      refine xR_callSi 49 cs_J_bitCount ml_RX0_50 ⟨Nat.le_of_ble_eq_true rfl, Nat.le_of_ble_eq_true rfl⟩ [.int v2] rfl rfl (Nat.le_of_ble_eq_true rfl) dB_housesIn_49 (kJ_bitCount G (m, z) v2) (fun r49 => ?_)
      exact xR_iret 52 rfl rfl dB_housesIn_52
    · refine xR_aln 15 0 dB_housesIn_15 rfl rfl ?_
      refine xR_getf 16 xcf0 0 (72 + t) (by decide) (xk_B ht) (xC_brd ht) (v := .ref (xa G (36 + (xtb t)))) rfl fl_RX0_14 dB_housesIn_16 ?_
      refine xR_iln 19 3 dB_housesIn_19 rfl rfl ?_
      refine xR_ic 20 (5 : Int32) dB_housesIn_20 (by decide) ?_
      refine xR_callVi 21 cv_T_get ml_RX0_24 ⟨Nat.le_of_ble_eq_true rfl, Nat.le_of_ble_eq_true rfl⟩ xcf3 rfl (36 + (xtb t)) (xk_T (xtb_lt ht)) (xC_tab (xtb_lt ht)) [.int v3, .int (5 : Int32)] rfl rfl (Nat.le_of_ble_eq_true rfl) dB_housesIn_21 (kT_get G (xtb t) (xtb_lt ht) z m v3 (5 : Int32)) (fun r21 => ?_)
      refine xR_iln 24 1 dB_housesIn_24 rfl rfl ?_
      refine xR_icne 25 42 dB_housesIn_25 (by decide) ?_ ?_
      · exact kB_housesIn_b42 G t ht z m (fB_housesIn_l4 t m n) ih v1 v2 v3
      · refine xR_iln 28 2 dB_housesIn_28 rfl rfl ?_
        refine xR_ic 29 (1 : Int32) dB_housesIn_29 (by decide) ?_
        refine xR_aln 30 0 dB_housesIn_30 rfl rfl ?_
        refine xR_getf 31 xcf0 0 (72 + t) (by decide) (xk_B ht) (xC_brd ht) (v := .ref (xa G (36 + (xtb t)))) rfl fl_RX0_14 dB_housesIn_31 ?_
        refine xR_iln 34 3 dB_housesIn_34 rfl rfl ?_
        refine xR_ic 35 (3 : Int32) dB_housesIn_35 (by decide) ?_
        refine xR_callVi 36 cv_T_get ml_RX0_24 ⟨Nat.le_of_ble_eq_true rfl, Nat.le_of_ble_eq_true rfl⟩ xcf3 rfl (36 + (xtb t)) (xk_T (xtb_lt ht)) (xC_tab (xtb_lt ht)) [.int v3, .int (3 : Int32)] rfl rfl (Nat.le_of_ble_eq_true rfl) dB_housesIn_36 (kT_get G (xtb t) (xtb_lt ht) z m v3 (3 : Int32)) (fun r36 => ?_)
        refine xR_ishl 39 dB_housesIn_39 ?_
        refine xR_ior 40 dB_housesIn_40 ?_
        refine xR_isn 41 ([(2, .int (v2 ||| ((1 : Int32) <<< (r36 &&& 31)))), (0, .ref (xa G (72 + t))), (1, .int v1), (3, .int v3)]) dB_housesIn_41 rfl (by decide) rfl ?_
        exact xR_sub [1, 2, 0, 3] rfl (kB_housesIn_b42 G t ht z m (fB_housesIn_l4 t m n) ih v1 (v2 ||| ((1 : Int32) <<< (r36 &&& 31))) v3)
set_option maxRecDepth 100000 in
set_option maxHeartbeats 4000000 in
theorem kB_housesIn (G : xG) (t : Nat) (ht : t < 5) (z : xM) (m : xM) (v1 : Int32) : ∀ a, fB_housesIn t m v1 = some a → xCt G yyB_housesIn [.ref (xa G (72 + t)), .int v1] (m, z) (some (.int a)) (m, z) := by
  refine xR_ct (em := (emi (m, z))) rfl (Nat.le_of_ble_eq_true rfl) ?_
  show xR G yyB_housesIn _ 0 [(0, .ref (xa G (72 + t))), (1, .int v1)] [] _ _
  unfold fB_housesIn
  refine xR_ic 0 (0 : Int32) dB_housesIn_0 (by decide) ?_
  refine xR_isn 1 ([(2, .int (0 : Int32)), (0, .ref (xa G (72 + t))), (1, .int v1)]) dB_housesIn_1 rfl (by decide) rfl ?_
  refine xR_ic 2 (0 : Int32) dB_housesIn_2 (by decide) ?_
  refine xR_isn 3 ([(3, .int (0 : Int32)), (2, .int (0 : Int32)), (0, .ref (xa G (72 + t))), (1, .int v1)]) dB_housesIn_3 rfl (by decide) rfl ?_
  exact xR_sub [2, 3, 1, 0] rfl (kB_housesIn_l4 G t ht z m xfu v1 (0 : Int32) (0 : Int32))
theorem dB_soundOf_0 : decode (xb yyB_soundOf) 0 = .ok (.aload_n 0, 1) := by decide +kernel
theorem dB_soundOf_1 : decode (xb yyB_soundOf) 1 = .ok (.getfield 14, 3) := by decide +kernel
theorem dB_soundOf_4 : decode (xb yyB_soundOf) 4 = .ok (.iload_n 1, 1) := by decide +kernel
theorem dB_soundOf_5 : decode (xb yyB_soundOf) 5 = .ok (.iconst 0, 1) := by decide +kernel
theorem dB_soundOf_6 : decode (xb yyB_soundOf) 6 = .ok (.invokevirtual 24, 3) := by decide +kernel
theorem dB_soundOf_9 : decode (xb yyB_soundOf) 9 = .ok (.iload_n 2, 1) := by decide +kernel
theorem dB_soundOf_10 : decode (xb yyB_soundOf) 10 = .ok (.aload_n 0, 1) := by decide +kernel
theorem dB_soundOf_11 : decode (xb yyB_soundOf) 11 = .ok (.getfield 14, 3) := by decide +kernel
theorem dB_soundOf_14 : decode (xb yyB_soundOf) 14 = .ok (.iload_n 1, 1) := by decide +kernel
theorem dB_soundOf_15 : decode (xb yyB_soundOf) 15 = .ok (.iconst 1, 1) := by decide +kernel
theorem dB_soundOf_16 : decode (xb yyB_soundOf) 16 = .ok (.invokevirtual 24, 3) := by decide +kernel
theorem dB_soundOf_19 : decode (xb yyB_soundOf) 19 = .ok (.aload_n 0, 1) := by decide +kernel
theorem dB_soundOf_20 : decode (xb yyB_soundOf) 20 = .ok (.getfield 14, 3) := by decide +kernel
theorem dB_soundOf_23 : decode (xb yyB_soundOf) 23 = .ok (.iload_n 1, 1) := by decide +kernel
theorem dB_soundOf_24 : decode (xb yyB_soundOf) 24 = .ok (.iconst 2, 1) := by decide +kernel
theorem dB_soundOf_25 : decode (xb yyB_soundOf) 25 = .ok (.invokevirtual 24, 3) := by decide +kernel
theorem dB_soundOf_28 : decode (xb yyB_soundOf) 28 = .ok (.invokestatic 63, 3) := by decide +kernel
theorem dB_soundOf_31 : decode (xb yyB_soundOf) 31 = .ok (.istore_n 3, 1) := by decide +kernel
theorem dB_soundOf_32 : decode (xb yyB_soundOf) 32 = .ok (.aload_n 0, 1) := by decide +kernel
theorem dB_soundOf_33 : decode (xb yyB_soundOf) 33 = .ok (.getfield 14, 3) := by decide +kernel
theorem dB_soundOf_36 : decode (xb yyB_soundOf) 36 = .ok (.iload_n 1, 1) := by decide +kernel
theorem dB_soundOf_37 : decode (xb yyB_soundOf) 37 = .ok (.iconst 4, 1) := by decide +kernel
theorem dB_soundOf_38 : decode (xb yyB_soundOf) 38 = .ok (.invokevirtual 24, 3) := by decide +kernel
theorem dB_soundOf_41 : decode (xb yyB_soundOf) 41 = .ok (.iconst 1, 1) := by decide +kernel
theorem dB_soundOf_42 : decode (xb yyB_soundOf) 42 = .ok (.if_icmp .ne 9, 3) := by decide +kernel
theorem dB_soundOf_45 : decode (xb yyB_soundOf) 45 = .ok (.iload_n 3, 1) := by decide +kernel
theorem dB_soundOf_46 : decode (xb yyB_soundOf) 46 = .ok (.iconst 2, 1) := by decide +kernel
theorem dB_soundOf_47 : decode (xb yyB_soundOf) 47 = .ok (.idiv, 1) := by decide +kernel
theorem dB_soundOf_48 : decode (xb yyB_soundOf) 48 = .ok (.goto 4, 3) := by decide +kernel
theorem dB_soundOf_51 : decode (xb yyB_soundOf) 51 = .ok (.iload_n 3, 1) := by decide +kernel
theorem dB_soundOf_52 : decode (xb yyB_soundOf) 52 = .ok (.ireturn, 1) := by decide +kernel
def fB_soundOf (t : Nat) (m : xM) (v1 : Int32) (v2 : Int32) : Option (Int32) := (fT_get (xtb t) m v1 (0 : Int32)).bind fun r6 => (fT_get (xtb t) m v1 (1 : Int32)).bind fun r16 => (fT_get (xtb t) m v1 (2 : Int32)).bind fun r25 => (fD_soundBy r6 v2 r16 r25).bind fun r28 => (fT_get (xtb t) m v1 (4 : Int32)).bind fun r38 => (if r38 = (1 : Int32) then some (r28 / (2 : Int32)) else some r28)
set_option maxRecDepth 100000 in
set_option maxHeartbeats 4000000 in
theorem kB_soundOf (G : xG) (t : Nat) (ht : t < 5) (z : xM) (m : xM) (v1 : Int32) (v2 : Int32) : ∀ a, fB_soundOf t m v1 v2 = some a → xCt G yyB_soundOf [.ref (xa G (72 + t)), .int v1, .int v2] (m, z) (some (.int a)) (m, z) := by
  refine xR_ct (em := (emi (m, z))) rfl (Nat.le_of_ble_eq_true rfl) ?_
  show xR G yyB_soundOf _ 0 [(0, .ref (xa G (72 + t))), (1, .int v1), (2, .int v2)] [] _ _
  unfold fB_soundOf
  refine xR_aln 0 0 dB_soundOf_0 rfl rfl ?_
  refine xR_getf 1 xcf0 0 (72 + t) (by decide) (xk_B ht) (xC_brd ht) (v := .ref (xa G (36 + (xtb t)))) rfl fl_RX0_14 dB_soundOf_1 ?_
  refine xR_iln 4 1 dB_soundOf_4 rfl rfl ?_
  refine xR_ic 5 (0 : Int32) dB_soundOf_5 (by decide) ?_
  refine xR_callVi 6 cv_T_get ml_RX0_24 ⟨Nat.le_of_ble_eq_true rfl, Nat.le_of_ble_eq_true rfl⟩ xcf3 rfl (36 + (xtb t)) (xk_T (xtb_lt ht)) (xC_tab (xtb_lt ht)) [.int v1, .int (0 : Int32)] rfl rfl (Nat.le_of_ble_eq_true rfl) dB_soundOf_6 (kT_get G (xtb t) (xtb_lt ht) z m v1 (0 : Int32)) (fun r6 => ?_)
  refine xR_iln 9 2 dB_soundOf_9 rfl rfl ?_
  refine xR_aln 10 0 dB_soundOf_10 rfl rfl ?_
  refine xR_getf 11 xcf0 0 (72 + t) (by decide) (xk_B ht) (xC_brd ht) (v := .ref (xa G (36 + (xtb t)))) rfl fl_RX0_14 dB_soundOf_11 ?_
  refine xR_iln 14 1 dB_soundOf_14 rfl rfl ?_
  refine xR_ic 15 (1 : Int32) dB_soundOf_15 (by decide) ?_
  refine xR_callVi 16 cv_T_get ml_RX0_24 ⟨Nat.le_of_ble_eq_true rfl, Nat.le_of_ble_eq_true rfl⟩ xcf3 rfl (36 + (xtb t)) (xk_T (xtb_lt ht)) (xC_tab (xtb_lt ht)) [.int v1, .int (1 : Int32)] rfl rfl (Nat.le_of_ble_eq_true rfl) dB_soundOf_16 (kT_get G (xtb t) (xtb_lt ht) z m v1 (1 : Int32)) (fun r16 => ?_)
  refine xR_aln 19 0 dB_soundOf_19 rfl rfl ?_
  refine xR_getf 20 xcf0 0 (72 + t) (by decide) (xk_B ht) (xC_brd ht) (v := .ref (xa G (36 + (xtb t)))) rfl fl_RX0_14 dB_soundOf_20 ?_
  refine xR_iln 23 1 dB_soundOf_23 rfl rfl ?_
  refine xR_ic 24 (2 : Int32) dB_soundOf_24 (by decide) ?_
  refine xR_callVi 25 cv_T_get ml_RX0_24 ⟨Nat.le_of_ble_eq_true rfl, Nat.le_of_ble_eq_true rfl⟩ xcf3 rfl (36 + (xtb t)) (xk_T (xtb_lt ht)) (xC_tab (xtb_lt ht)) [.int v1, .int (2 : Int32)] rfl rfl (Nat.le_of_ble_eq_true rfl) dB_soundOf_25 (kT_get G (xtb t) (xtb_lt ht) z m v1 (2 : Int32)) (fun r25 => ?_)
  refine xR_callSi 28 cs_D_soundBy ml_RX0_63 ⟨Nat.le_of_ble_eq_true rfl, Nat.le_of_ble_eq_true rfl⟩ [.int r6, .int v2, .int r16, .int r25] rfl rfl (Nat.le_of_ble_eq_true rfl) dB_soundOf_28 (kD_soundBy G (m, z) r6 v2 r16 r25) (fun r28 => ?_)
  refine xR_isn 31 ([(3, .int r28), (0, .ref (xa G (72 + t))), (1, .int v1), (2, .int v2)]) dB_soundOf_31 rfl (by decide) rfl ?_
  refine xR_aln 32 1 dB_soundOf_32 rfl rfl ?_
  refine xR_getf 33 xcf0 0 (72 + t) (by decide) (xk_B ht) (xC_brd ht) (v := .ref (xa G (36 + (xtb t)))) rfl fl_RX0_14 dB_soundOf_33 ?_
  refine xR_iln 36 2 dB_soundOf_36 rfl rfl ?_
  refine xR_ic 37 (4 : Int32) dB_soundOf_37 (by decide) ?_
  refine xR_callVi 38 cv_T_get ml_RX0_24 ⟨Nat.le_of_ble_eq_true rfl, Nat.le_of_ble_eq_true rfl⟩ xcf3 rfl (36 + (xtb t)) (xk_T (xtb_lt ht)) (xC_tab (xtb_lt ht)) [.int v1, .int (4 : Int32)] rfl rfl (Nat.le_of_ble_eq_true rfl) dB_soundOf_38 (kT_get G (xtb t) (xtb_lt ht) z m v1 (4 : Int32)) (fun r38 => ?_)
  refine xR_ic 41 (1 : Int32) dB_soundOf_41 (by decide) ?_
  refine xR_icne 42 51 dB_soundOf_42 (by decide) ?_ ?_
  · refine xR_iln 51 0 dB_soundOf_51 rfl rfl ?_
    exact xR_iret 52 rfl rfl dB_soundOf_52
  · refine xR_iln 45 0 dB_soundOf_45 rfl rfl ?_
    refine xR_ic 46 (2 : Int32) dB_soundOf_46 (by decide) ?_
    refine xR_idiv 47 dB_soundOf_47 (by decide) ?_
    refine xR_goto 48 52 dB_soundOf_48 (by decide) ?_
    exact xR_iret 52 rfl rfl dB_soundOf_52
theorem dB_dampOfAll_0 : decode (xb yyB_dampOfAll) 0 = .ok (.iconst 0, 1) := by decide +kernel
theorem dB_dampOfAll_1 : decode (xb yyB_dampOfAll) 1 = .ok (.istore_n 1, 1) := by decide +kernel
theorem dB_dampOfAll_2 : decode (xb yyB_dampOfAll) 2 = .ok (.iconst 0, 1) := by decide +kernel
theorem dB_dampOfAll_3 : decode (xb yyB_dampOfAll) 3 = .ok (.istore_n 2, 1) := by decide +kernel
theorem dB_dampOfAll_4 : decode (xb yyB_dampOfAll) 4 = .ok (.iload_n 2, 1) := by decide +kernel
theorem dB_dampOfAll_5 : decode (xb yyB_dampOfAll) 5 = .ok (.aload_n 0, 1) := by decide +kernel
theorem dB_dampOfAll_6 : decode (xb yyB_dampOfAll) 6 = .ok (.getfield 14, 3) := by decide +kernel
theorem dB_dampOfAll_9 : decode (xb yyB_dampOfAll) 9 = .ok (.invokevirtual 20, 3) := by decide +kernel
theorem dB_dampOfAll_12 : decode (xb yyB_dampOfAll) 12 = .ok (.if_icmp .ge 21, 3) := by decide +kernel
theorem dB_dampOfAll_15 : decode (xb yyB_dampOfAll) 15 = .ok (.iload_n 1, 1) := by decide +kernel
theorem dB_dampOfAll_16 : decode (xb yyB_dampOfAll) 16 = .ok (.aload_n 0, 1) := by decide +kernel
theorem dB_dampOfAll_17 : decode (xb yyB_dampOfAll) 17 = .ok (.getfield 14, 3) := by decide +kernel
theorem dB_dampOfAll_20 : decode (xb yyB_dampOfAll) 20 = .ok (.iload_n 2, 1) := by decide +kernel
theorem dB_dampOfAll_21 : decode (xb yyB_dampOfAll) 21 = .ok (.iconst 2, 1) := by decide +kernel
theorem dB_dampOfAll_22 : decode (xb yyB_dampOfAll) 22 = .ok (.invokevirtual 24, 3) := by decide +kernel
theorem dB_dampOfAll_25 : decode (xb yyB_dampOfAll) 25 = .ok (.iadd, 1) := by decide +kernel
theorem dB_dampOfAll_26 : decode (xb yyB_dampOfAll) 26 = .ok (.istore_n 1, 1) := by decide +kernel
theorem dB_dampOfAll_27 : decode (xb yyB_dampOfAll) 27 = .ok (.iinc 2 1, 3) := by decide +kernel
theorem dB_dampOfAll_30 : decode (xb yyB_dampOfAll) 30 = .ok (.goto (-26), 3) := by decide +kernel
theorem dB_dampOfAll_33 : decode (xb yyB_dampOfAll) 33 = .ok (.iload_n 1, 1) := by decide +kernel
theorem dB_dampOfAll_34 : decode (xb yyB_dampOfAll) 34 = .ok (.ireturn, 1) := by decide +kernel
def fB_dampOfAll_l4 (t : Nat) (m : xM) : Nat → Int32 → Int32 → Option (Int32)
  | 0, _, _ => none
  | n + 1, v1, v2 => (fT_many (xtb t) m).bind fun r9 => (if r9 ≤ v2 then some v1 else (fT_get (xtb t) m v2 (2 : Int32)).bind fun r22 => fB_dampOfAll_l4 t m n (v1 + r22) (v2 + 1))
def fB_dampOfAll (t : Nat) (m : xM) : Option (Int32) := fB_dampOfAll_l4 t m xfu (0 : Int32) (0 : Int32)
set_option maxRecDepth 100000 in
set_option maxHeartbeats 4000000 in
theorem kB_dampOfAll_l4 (G : xG) (t : Nat) (ht : t < 5) (z : xM) (m : xM)   : ∀ (n : Nat) (v1 : Int32) (v2 : Int32), xR G yyB_dampOfAll (emi (m, z)) 4 [(0, .ref (xa G (72 + t))), (1, .int v1), (2, .int v2)] [] (m, z) (fB_dampOfAll_l4 t m n v1 v2) := by
  intro n
  induction n with
  | zero =>
    intro v1 v2
    rw [fB_dampOfAll_l4]
    exact xR_none
  | succ n ih =>
    intro v1 v2
    rw [fB_dampOfAll_l4]
    refine xR_iln 4 2 dB_dampOfAll_4 rfl rfl ?_
    refine xR_aln 5 0 dB_dampOfAll_5 rfl rfl ?_
    refine xR_getf 6 xcf0 0 (72 + t) (by decide) (xk_B ht) (xC_brd ht) (v := .ref (xa G (36 + (xtb t)))) rfl fl_RX0_14 dB_dampOfAll_6 ?_
    refine xR_callVi 9 cv_T_many ml_RX0_20 ⟨Nat.le_of_ble_eq_true rfl, Nat.le_of_ble_eq_true rfl⟩ xcf3 rfl (36 + (xtb t)) (xk_T (xtb_lt ht)) (xC_tab (xtb_lt ht)) [] rfl rfl (Nat.le_of_ble_eq_true rfl) dB_dampOfAll_9 (kT_many G (xtb t) (xtb_lt ht) z m) (fun r9 => ?_)
    refine xR_icge 12 33 dB_dampOfAll_12 (by decide) ?_ ?_
    · refine xR_iln 33 1 dB_dampOfAll_33 rfl rfl ?_
      exact xR_iret 34 rfl rfl dB_dampOfAll_34
    · refine xR_iln 15 1 dB_dampOfAll_15 rfl rfl ?_
      refine xR_aln 16 0 dB_dampOfAll_16 rfl rfl ?_
      refine xR_getf 17 xcf0 0 (72 + t) (by decide) (xk_B ht) (xC_brd ht) (v := .ref (xa G (36 + (xtb t)))) rfl fl_RX0_14 dB_dampOfAll_17 ?_
      refine xR_iln 20 2 dB_dampOfAll_20 rfl rfl ?_
      refine xR_ic 21 (2 : Int32) dB_dampOfAll_21 (by decide) ?_
      refine xR_callVi 22 cv_T_get ml_RX0_24 ⟨Nat.le_of_ble_eq_true rfl, Nat.le_of_ble_eq_true rfl⟩ xcf3 rfl (36 + (xtb t)) (xk_T (xtb_lt ht)) (xC_tab (xtb_lt ht)) [.int v2, .int (2 : Int32)] rfl rfl (Nat.le_of_ble_eq_true rfl) dB_dampOfAll_22 (kT_get G (xtb t) (xtb_lt ht) z m v2 (2 : Int32)) (fun r22 => ?_)
      refine xR_iadd 25 dB_dampOfAll_25 ?_
      refine xR_isn 26 ([(1, .int (v1 + r22)), (0, .ref (xa G (72 + t))), (2, .int v2)]) dB_dampOfAll_26 rfl (by decide) rfl ?_
      refine xR_iinc 27 2 (v2 + 1) ([(2, .int (v2 + 1)), (1, .int (v1 + r22)), (0, .ref (xa G (72 + t)))]) dB_dampOfAll_27 rfl rfl (by decide) rfl ?_
      refine xR_goto 30 4 dB_dampOfAll_30 (by decide) ?_
      exact xR_sub [2, 1, 0] rfl (ih (v1 + r22) (v2 + 1))
set_option maxRecDepth 100000 in
set_option maxHeartbeats 4000000 in
theorem kB_dampOfAll (G : xG) (t : Nat) (ht : t < 5) (z : xM) (m : xM) : ∀ a, fB_dampOfAll t m  = some a → xCt G yyB_dampOfAll [.ref (xa G (72 + t))] (m, z) (some (.int a)) (m, z) := by
  refine xR_ct (em := (emi (m, z))) rfl (Nat.le_of_ble_eq_true rfl) ?_
  show xR G yyB_dampOfAll _ 0 [(0, .ref (xa G (72 + t)))] [] _ _
  unfold fB_dampOfAll
  refine xR_ic 0 (0 : Int32) dB_dampOfAll_0 (by decide) ?_
  refine xR_isn 1 ([(1, .int (0 : Int32)), (0, .ref (xa G (72 + t)))]) dB_dampOfAll_1 rfl (by decide) rfl ?_
  refine xR_ic 2 (0 : Int32) dB_dampOfAll_2 (by decide) ?_
  refine xR_isn 3 ([(2, .int (0 : Int32)), (1, .int (0 : Int32)), (0, .ref (xa G (72 + t)))]) dB_dampOfAll_3 rfl (by decide) rfl ?_
  exact xR_sub [2, 1, 0] rfl (kB_dampOfAll_l4 G t ht z m xfu (0 : Int32) (0 : Int32))
