theorem dM_bad_0 : decode (xb yyM_bad) 0 = .ok (.aload_n 0, 1) := by decide +kernel
theorem dM_bad_1 : decode (xb yyM_bad) 1 = .ok (.getfield 27, 3) := by decide +kernel
theorem dM_bad_4 : decode (xb yyM_bad) 4 = .ok (.iconst 0, 1) := by decide +kernel
theorem dM_bad_5 : decode (xb yyM_bad) 5 = .ok (.dup2, 1) := by decide +kernel
theorem dM_bad_6 : decode (xb yyM_bad) 6 = .ok (.iaload, 1) := by decide +kernel
theorem dM_bad_7 : decode (xb yyM_bad) 7 = .ok (.iconst 1, 1) := by decide +kernel
theorem dM_bad_8 : decode (xb yyM_bad) 8 = .ok (.iadd, 1) := by decide +kernel
theorem dM_bad_9 : decode (xb yyM_bad) 9 = .ok (.iastore, 1) := by decide +kernel
theorem dM_bad_10 : decode (xb yyM_bad) 10 = .ok (.iload_n 1, 1) := by decide +kernel
theorem dM_bad_11 : decode (xb yyM_bad) 11 = .ok (.ireturn, 1) := by decide +kernel
def fM_bad  (v1 : Int32) (m : xM) : Option (Int32 × xM) := xck 3 (0 : Int32) (xck 3 (0 : Int32) (some (v1, (xset m 3 (0 : Int32).toNatClampNeg ((m.1 3 (0 : Int32).toNatClampNeg) + (1 : Int32))))))
set_option maxRecDepth 100000 in
set_option maxHeartbeats 4000000 in
theorem kM_bad (G : xG)   (z : xM) (m : xM) (v1 : Int32) : ∀ a, fM_bad  v1 m = some a → xCt G yyM_bad [.ref (xa G 85), .int v1] (z, m) (some (.int a.1)) (z, a.2) := by
  refine xR_ct (em := (emim z)) rfl (Nat.le_of_ble_eq_true rfl) ?_
  show xR G yyM_bad _ 0 [(0, .ref (xa G 85)), (1, .int v1)] [] _ _
  unfold fM_bad
  refine xR_aln 0 0 dM_bad_0 rfl rfl ?_
  refine xR_getf 1 xcf7 6 85 (by decide) (by decide) rfl (v := .ref (xa G 89)) rfl fl_RX9_27 dM_bad_1 ?_
  refine xR_ic 4 (0 : Int32) dM_bad_4 (by decide) ?_
  refine xR_dup2 5 dM_bad_5 rfl rfl ?_
  refine xR_iald 6 89 (by decide) rfl dM_bad_6 ?_
  refine xR_ic 7 (1 : Int32) dM_bad_7 (by decide) ?_
  refine xR_iadd 8 dM_bad_8 ?_
  refine xR_iast 9 89 (by decide) rfl (z, (xset m 3 (0 : Int32).toNatClampNeg ((m.1 3 (0 : Int32).toNatClampNeg) + (1 : Int32)))) xW_m3 dM_bad_9 ?_
  refine xR_iln 10 1 dM_bad_10 rfl rfl ?_
  exact xR_iret 11 rfl rfl dM_bad_11
theorem dM_no_0 : decode (xb yyM_no) 0 = .ok (.aload_n 0, 1) := by decide +kernel
theorem dM_no_1 : decode (xb yyM_no) 1 = .ok (.getfield 27, 3) := by decide +kernel
theorem dM_no_4 : decode (xb yyM_no) 4 = .ok (.iconst 1, 1) := by decide +kernel
theorem dM_no_5 : decode (xb yyM_no) 5 = .ok (.dup2, 1) := by decide +kernel
theorem dM_no_6 : decode (xb yyM_no) 6 = .ok (.iaload, 1) := by decide +kernel
theorem dM_no_7 : decode (xb yyM_no) 7 = .ok (.iconst 1, 1) := by decide +kernel
theorem dM_no_8 : decode (xb yyM_no) 8 = .ok (.iadd, 1) := by decide +kernel
theorem dM_no_9 : decode (xb yyM_no) 9 = .ok (.iastore, 1) := by decide +kernel
theorem dM_no_10 : decode (xb yyM_no) 10 = .ok (.bipush (-3), 2) := by decide +kernel
theorem dM_no_12 : decode (xb yyM_no) 12 = .ok (.ireturn, 1) := by decide +kernel
def fM_no  (m : xM) : Option (Int32 × xM) := xck 3 (1 : Int32) (xck 3 (1 : Int32) (some ((-3 : Int32), (xset m 3 (1 : Int32).toNatClampNeg ((m.1 3 (1 : Int32).toNatClampNeg) + (1 : Int32))))))
set_option maxRecDepth 100000 in
set_option maxHeartbeats 4000000 in
theorem kM_no (G : xG)   (z : xM) (m : xM) : ∀ a, fM_no  m = some a → xCt G yyM_no [.ref (xa G 85)] (z, m) (some (.int a.1)) (z, a.2) := by
  refine xR_ct (em := (emim z)) rfl (Nat.le_of_ble_eq_true rfl) ?_
  show xR G yyM_no _ 0 [(0, .ref (xa G 85))] [] _ _
  unfold fM_no
  refine xR_aln 0 0 dM_no_0 rfl rfl ?_
  refine xR_getf 1 xcf7 6 85 (by decide) (by decide) rfl (v := .ref (xa G 89)) rfl fl_RX9_27 dM_no_1 ?_
  refine xR_ic 4 (1 : Int32) dM_no_4 (by decide) ?_
  refine xR_dup2 5 dM_no_5 rfl rfl ?_
  refine xR_iald 6 89 (by decide) rfl dM_no_6 ?_
  refine xR_ic 7 (1 : Int32) dM_no_7 (by decide) ?_
  refine xR_iadd 8 dM_no_8 ?_
  refine xR_iast 9 89 (by decide) rfl (z, (xset m 3 (1 : Int32).toNatClampNeg ((m.1 3 (1 : Int32).toNatClampNeg) + (1 : Int32)))) xW_m3 dM_no_9 ?_
  refine xR_bp 10 (-3 : Int32) dM_no_10 (by decide) ?_
  exact xR_iret 12 rfl rfl dM_no_12
theorem dM_full_0 : decode (xb yyM_full) 0 = .ok (.aload_n 0, 1) := by decide +kernel
theorem dM_full_1 : decode (xb yyM_full) 1 = .ok (.getfield 27, 3) := by decide +kernel
theorem dM_full_4 : decode (xb yyM_full) 4 = .ok (.iconst 2, 1) := by decide +kernel
theorem dM_full_5 : decode (xb yyM_full) 5 = .ok (.dup2, 1) := by decide +kernel
theorem dM_full_6 : decode (xb yyM_full) 6 = .ok (.iaload, 1) := by decide +kernel
theorem dM_full_7 : decode (xb yyM_full) 7 = .ok (.iconst 1, 1) := by decide +kernel
theorem dM_full_8 : decode (xb yyM_full) 8 = .ok (.iadd, 1) := by decide +kernel
theorem dM_full_9 : decode (xb yyM_full) 9 = .ok (.iastore, 1) := by decide +kernel
theorem dM_full_10 : decode (xb yyM_full) 10 = .ok (.bipush (-4), 2) := by decide +kernel
theorem dM_full_12 : decode (xb yyM_full) 12 = .ok (.ireturn, 1) := by decide +kernel
def fM_full  (m : xM) : Option (Int32 × xM) := xck 3 (2 : Int32) (xck 3 (2 : Int32) (some ((-4 : Int32), (xset m 3 (2 : Int32).toNatClampNeg ((m.1 3 (2 : Int32).toNatClampNeg) + (1 : Int32))))))
set_option maxRecDepth 100000 in
set_option maxHeartbeats 4000000 in
theorem kM_full (G : xG)   (z : xM) (m : xM) : ∀ a, fM_full  m = some a → xCt G yyM_full [.ref (xa G 85)] (z, m) (some (.int a.1)) (z, a.2) := by
  refine xR_ct (em := (emim z)) rfl (Nat.le_of_ble_eq_true rfl) ?_
  show xR G yyM_full _ 0 [(0, .ref (xa G 85))] [] _ _
  unfold fM_full
  refine xR_aln 0 0 dM_full_0 rfl rfl ?_
  refine xR_getf 1 xcf7 6 85 (by decide) (by decide) rfl (v := .ref (xa G 89)) rfl fl_RX9_27 dM_full_1 ?_
  refine xR_ic 4 (2 : Int32) dM_full_4 (by decide) ?_
  refine xR_dup2 5 dM_full_5 rfl rfl ?_
  refine xR_iald 6 89 (by decide) rfl dM_full_6 ?_
  refine xR_ic 7 (1 : Int32) dM_full_7 (by decide) ?_
  refine xR_iadd 8 dM_full_8 ?_
  refine xR_iast 9 89 (by decide) rfl (z, (xset m 3 (2 : Int32).toNatClampNeg ((m.1 3 (2 : Int32).toNatClampNeg) + (1 : Int32)))) xW_m3 dM_full_9 ?_
  refine xR_bp 10 (-4 : Int32) dM_full_10 (by decide) ?_
  exact xR_iret 12 rfl rfl dM_full_12
theorem dM_copy_0 : decode (xb yyM_copy) 0 = .ok (.iconst 0, 1) := by decide +kernel
theorem dM_copy_1 : decode (xb yyM_copy) 1 = .ok (.istore_n 3, 1) := by decide +kernel
theorem dM_copy_2 : decode (xb yyM_copy) 2 = .ok (.iload_n 3, 1) := by decide +kernel
theorem dM_copy_3 : decode (xb yyM_copy) 3 = .ok (.sipush 426, 3) := by decide +kernel
theorem dM_copy_6 : decode (xb yyM_copy) 6 = .ok (.if_icmp .ge 25, 3) := by decide +kernel
theorem dM_copy_9 : decode (xb yyM_copy) 9 = .ok (.aload_n 0, 1) := by decide +kernel
theorem dM_copy_10 : decode (xb yyM_copy) 10 = .ok (.getfield 7, 3) := by decide +kernel
theorem dM_copy_13 : decode (xb yyM_copy) 13 = .ok (.iload_n 2, 1) := by decide +kernel
theorem dM_copy_14 : decode (xb yyM_copy) 14 = .ok (.iload_n 3, 1) := by decide +kernel
theorem dM_copy_15 : decode (xb yyM_copy) 15 = .ok (.iadd, 1) := by decide +kernel
theorem dM_copy_16 : decode (xb yyM_copy) 16 = .ok (.aload_n 0, 1) := by decide +kernel
theorem dM_copy_17 : decode (xb yyM_copy) 17 = .ok (.getfield 7, 3) := by decide +kernel
theorem dM_copy_20 : decode (xb yyM_copy) 20 = .ok (.iload_n 1, 1) := by decide +kernel
theorem dM_copy_21 : decode (xb yyM_copy) 21 = .ok (.iload_n 3, 1) := by decide +kernel
theorem dM_copy_22 : decode (xb yyM_copy) 22 = .ok (.iadd, 1) := by decide +kernel
theorem dM_copy_23 : decode (xb yyM_copy) 23 = .ok (.iaload, 1) := by decide +kernel
theorem dM_copy_24 : decode (xb yyM_copy) 24 = .ok (.iastore, 1) := by decide +kernel
theorem dM_copy_25 : decode (xb yyM_copy) 25 = .ok (.iinc 3 1, 3) := by decide +kernel
theorem dM_copy_28 : decode (xb yyM_copy) 28 = .ok (.goto (-26), 3) := by decide +kernel
theorem dM_copy_31 : decode (xb yyM_copy) 31 = .ok (.return_, 1) := by decide +kernel
def fM_copy_l2  : Nat → Int32 → Int32 → Int32 → xM → Option (xM)
  | 0, _, _, _, _ => none
  | n + 1, v1, v2, v3, m => (if (426 : Int32) ≤ v3 then some m else xck 1752 (v1 + v3) (xck 1752 (v2 + v3) (fM_copy_l2 n v1 v2 (v3 + 1) (xset m 0 (v2 + v3).toNatClampNeg (m.1 0 (v1 + v3).toNatClampNeg)))))
def fM_copy  (v1 : Int32) (v2 : Int32) (m : xM) : Option (xM) := fM_copy_l2 xfu v1 v2 (0 : Int32) m
set_option maxRecDepth 100000 in
set_option maxHeartbeats 4000000 in
theorem kM_copy_l2 (G : xG)   (z : xM)    : ∀ (n : Nat) (v1 : Int32) (v2 : Int32) (v3 : Int32) (m : xM), xR G yyM_copy (emvm z) 2 [(0, .ref (xa G 85)), (1, .int v1), (2, .int v2), (3, .int v3)] [] (z, m) (fM_copy_l2  n v1 v2 v3 m) := by
  intro n
  induction n with
  | zero =>
    intro v1 v2 v3 m
    rw [fM_copy_l2]
    exact xR_none
  | succ n ih =>
    intro v1 v2 v3 m
    rw [fM_copy_l2]
    refine xR_iln 2 3 dM_copy_2 rfl rfl ?_
    refine xR_sp 3 (426 : Int32) dM_copy_3 (by decide) ?_
    refine xR_icge 6 31 dM_copy_6 (by decide) ?_ ?_
    · exact xR_vret 31 rfl rfl dM_copy_31
    · refine xR_aln 9 0 dM_copy_9 rfl rfl ?_
      refine xR_getf 10 xcf7 0 85 (by decide) (by decide) rfl (v := .ref (xa G 86)) rfl fl_RX9_7 dM_copy_10 ?_
      refine xR_iln 13 2 dM_copy_13 rfl rfl ?_
      refine xR_iln 14 3 dM_copy_14 rfl rfl ?_
      refine xR_iadd 15 dM_copy_15 ?_
      refine xR_aln 16 0 dM_copy_16 rfl rfl ?_
      refine xR_getf 17 xcf7 0 85 (by decide) (by decide) rfl (v := .ref (xa G 86)) rfl fl_RX9_7 dM_copy_17 ?_
      refine xR_iln 20 1 dM_copy_20 rfl rfl ?_
      refine xR_iln 21 3 dM_copy_21 rfl rfl ?_
      refine xR_iadd 22 dM_copy_22 ?_
      refine xR_iald 23 86 (by decide) rfl dM_copy_23 ?_
      refine xR_iast 24 86 (by decide) rfl (z, (xset m 0 (v2 + v3).toNatClampNeg (m.1 0 (v1 + v3).toNatClampNeg))) xW_m0 dM_copy_24 ?_
      refine xR_iinc 25 3 (v3 + 1) ([(3, .int (v3 + 1)), (0, .ref (xa G 85)), (1, .int v1), (2, .int v2)]) dM_copy_25 rfl rfl (by decide) rfl ?_
      refine xR_goto 28 2 dM_copy_28 (by decide) ?_
      exact xR_sub [1, 2, 3, 0] rfl (ih v1 v2 (v3 + 1) (xset m 0 (v2 + v3).toNatClampNeg (m.1 0 (v1 + v3).toNatClampNeg)))
set_option maxRecDepth 100000 in
set_option maxHeartbeats 4000000 in
theorem kM_copy (G : xG)   (z : xM) (m : xM) (v1 : Int32) (v2 : Int32) : ∀ a, fM_copy  v1 v2 m = some a → xCt G yyM_copy [.ref (xa G 85), .int v1, .int v2] (z, m) (none) (z, a) := by
  refine xR_ct (em := (emvm z)) rfl (Nat.le_of_ble_eq_true rfl) ?_
  show xR G yyM_copy _ 0 [(0, .ref (xa G 85)), (1, .int v1), (2, .int v2)] [] _ _
  unfold fM_copy
  refine xR_ic 0 (0 : Int32) dM_copy_0 (by decide) ?_
  refine xR_isn 1 ([(3, .int (0 : Int32)), (0, .ref (xa G 85)), (1, .int v1), (2, .int v2)]) dM_copy_1 rfl (by decide) rfl ?_
  exact xR_sub [1, 2, 3, 0] rfl (kM_copy_l2 G z xfu v1 v2 (0 : Int32) m)
theorem dM_empties_0 : decode (xb yyM_empties) 0 = .ok (.iconst 0, 1) := by decide +kernel
theorem dM_empties_1 : decode (xb yyM_empties) 1 = .ok (.istore_n 2, 1) := by decide +kernel
theorem dM_empties_2 : decode (xb yyM_empties) 2 = .ok (.iload_n 2, 1) := by decide +kernel
theorem dM_empties_3 : decode (xb yyM_empties) 3 = .ok (.sipush 426, 3) := by decide +kernel
theorem dM_empties_6 : decode (xb yyM_empties) 6 = .ok (.if_icmp .ge 18, 3) := by decide +kernel
theorem dM_empties_9 : decode (xb yyM_empties) 9 = .ok (.aload_n 0, 1) := by decide +kernel
theorem dM_empties_10 : decode (xb yyM_empties) 10 = .ok (.getfield 7, 3) := by decide +kernel
theorem dM_empties_13 : decode (xb yyM_empties) 13 = .ok (.iload_n 1, 1) := by decide +kernel
theorem dM_empties_14 : decode (xb yyM_empties) 14 = .ok (.iload_n 2, 1) := by decide +kernel
theorem dM_empties_15 : decode (xb yyM_empties) 15 = .ok (.iadd, 1) := by decide +kernel
theorem dM_empties_16 : decode (xb yyM_empties) 16 = .ok (.iconst 0, 1) := by decide +kernel
theorem dM_empties_17 : decode (xb yyM_empties) 17 = .ok (.iastore, 1) := by decide +kernel
theorem dM_empties_18 : decode (xb yyM_empties) 18 = .ok (.iinc 2 1, 3) := by decide +kernel
theorem dM_empties_21 : decode (xb yyM_empties) 21 = .ok (.goto (-19), 3) := by decide +kernel
theorem dM_empties_24 : decode (xb yyM_empties) 24 = .ok (.return_, 1) := by decide +kernel
def fM_empties_l2  : Nat → Int32 → Int32 → xM → Option (xM)
  | 0, _, _, _ => none
  | n + 1, v1, v2, m => (if (426 : Int32) ≤ v2 then some m else xck 1752 (v1 + v2) (fM_empties_l2 n v1 (v2 + 1) (xset m 0 (v1 + v2).toNatClampNeg (0 : Int32))))
def fM_empties  (v1 : Int32) (m : xM) : Option (xM) := fM_empties_l2 xfu v1 (0 : Int32) m
set_option maxRecDepth 100000 in
set_option maxHeartbeats 4000000 in
theorem kM_empties_l2 (G : xG)   (z : xM)    : ∀ (n : Nat) (v1 : Int32) (v2 : Int32) (m : xM), xR G yyM_empties (emvm z) 2 [(0, .ref (xa G 85)), (1, .int v1), (2, .int v2)] [] (z, m) (fM_empties_l2  n v1 v2 m) := by
  intro n
  induction n with
  | zero =>
    intro v1 v2 m
    rw [fM_empties_l2]
    exact xR_none
  | succ n ih =>
    intro v1 v2 m
    rw [fM_empties_l2]
    refine xR_iln 2 2 dM_empties_2 rfl rfl ?_
    refine xR_sp 3 (426 : Int32) dM_empties_3 (by decide) ?_
    refine xR_icge 6 24 dM_empties_6 (by decide) ?_ ?_
    · exact xR_vret 24 rfl rfl dM_empties_24
    · refine xR_aln 9 0 dM_empties_9 rfl rfl ?_
      refine xR_getf 10 xcf7 0 85 (by decide) (by decide) rfl (v := .ref (xa G 86)) rfl fl_RX9_7 dM_empties_10 ?_
      refine xR_iln 13 1 dM_empties_13 rfl rfl ?_
      refine xR_iln 14 2 dM_empties_14 rfl rfl ?_
      refine xR_iadd 15 dM_empties_15 ?_
      refine xR_ic 16 (0 : Int32) dM_empties_16 (by decide) ?_
      refine xR_iast 17 86 (by decide) rfl (z, (xset m 0 (v1 + v2).toNatClampNeg (0 : Int32))) xW_m0 dM_empties_17 ?_
      refine xR_iinc 18 2 (v2 + 1) ([(2, .int (v2 + 1)), (0, .ref (xa G 85)), (1, .int v1)]) dM_empties_18 rfl rfl (by decide) rfl ?_
      refine xR_goto 21 2 dM_empties_21 (by decide) ?_
      exact xR_sub [1, 2, 0] rfl (ih v1 (v2 + 1) (xset m 0 (v1 + v2).toNatClampNeg (0 : Int32)))
set_option maxRecDepth 100000 in
set_option maxHeartbeats 4000000 in
theorem kM_empties (G : xG)   (z : xM) (m : xM) (v1 : Int32) : ∀ a, fM_empties  v1 m = some a → xCt G yyM_empties [.ref (xa G 85), .int v1] (z, m) (none) (z, a) := by
  refine xR_ct (em := (emvm z)) rfl (Nat.le_of_ble_eq_true rfl) ?_
  show xR G yyM_empties _ 0 [(0, .ref (xa G 85)), (1, .int v1)] [] _ _
  unfold fM_empties
  refine xR_ic 0 (0 : Int32) dM_empties_0 (by decide) ?_
  refine xR_isn 1 ([(2, .int (0 : Int32)), (0, .ref (xa G 85)), (1, .int v1)]) dM_empties_1 rfl (by decide) rfl ?_
  exact xR_sub [1, 2, 0] rfl (kM_empties_l2 G z xfu v1 (0 : Int32) m)
theorem dM_isBoard_0 : decode (xb yyM_isBoard) 0 = .ok (.iload_n 1, 1) := by decide +kernel
theorem dM_isBoard_1 : decode (xb yyM_isBoard) 1 = .ok (.i2l, 1) := by decide +kernel
theorem dM_isBoard_2 : decode (xb yyM_isBoard) 2 = .ok (.lconst 0, 1) := by decide +kernel
theorem dM_isBoard_3 : decode (xb yyM_isBoard) 3 = .ok (.aload_n 0, 1) := by decide +kernel
theorem dM_isBoard_4 : decode (xb yyM_isBoard) 4 = .ok (.getfield 7, 3) := by decide +kernel
theorem dM_isBoard_7 : decode (xb yyM_isBoard) 7 = .ok (.iconst 0, 1) := by decide +kernel
theorem dM_isBoard_8 : decode (xb yyM_isBoard) 8 = .ok (.iaload, 1) := by decide +kernel
theorem dM_isBoard_9 : decode (xb yyM_isBoard) 9 = .ok (.iconst 1, 1) := by decide +kernel
theorem dM_isBoard_10 : decode (xb yyM_isBoard) 10 = .ok (.isub, 1) := by decide +kernel
theorem dM_isBoard_11 : decode (xb yyM_isBoard) 11 = .ok (.i2l, 1) := by decide +kernel
theorem dM_isBoard_12 : decode (xb yyM_isBoard) 12 = .ok (.invokestatic 40, 3) := by decide +kernel
theorem dM_isBoard_15 : decode (xb yyM_isBoard) 15 = .ok (.ireturn, 1) := by decide +kernel
def fM_isBoard  (m : xM) (v1 : Int32) : Option (Int32) := xck 1752 (0 : Int32) ((fM_in ((v1).toInt64) (0 : Int64) ((((m.1 0 (0 : Int32).toNatClampNeg) - (1 : Int32))).toInt64)).bind fun r12 => some (xnb r12))
set_option maxRecDepth 100000 in
set_option maxHeartbeats 4000000 in
theorem kM_isBoard (G : xG)   (z : xM) (m : xM) (v1 : Int32) : ∀ a, fM_isBoard m v1 = some a → xCt G yyM_isBoard [.ref (xa G 85), .int v1] (z, m) (some (.int a)) (z, m) := by
  refine xR_ct (em := (emi (z, m))) rfl (Nat.le_of_ble_eq_true rfl) ?_
  show xR G yyM_isBoard _ 0 [(0, .ref (xa G 85)), (1, .int v1)] [] _ _
  unfold fM_isBoard
  refine xR_iln 0 1 dM_isBoard_0 rfl rfl ?_
  refine xR_i2l 1 dM_isBoard_1 ?_
  refine xR_lc 2 (0 : Int64) dM_isBoard_2 (by decide) ?_
  refine xR_aln 3 0 dM_isBoard_3 rfl rfl ?_
  refine xR_getf 4 xcf7 0 85 (by decide) (by decide) rfl (v := .ref (xa G 86)) rfl fl_RX9_7 dM_isBoard_4 ?_
  refine xR_ic 7 (0 : Int32) dM_isBoard_7 (by decide) ?_
  refine xR_iald 8 86 (by decide) rfl dM_isBoard_8 ?_
  refine xR_ic 9 (1 : Int32) dM_isBoard_9 (by decide) ?_
  refine xR_isub 10 dM_isBoard_10 ?_
  refine xR_i2l 11 dM_isBoard_11 ?_
  refine xR_callSi 12 cs_M_in ml_RX9_40 ⟨Nat.le_of_ble_eq_true rfl, Nat.le_of_ble_eq_true rfl⟩ [.long ((v1).toInt64), .long (0 : Int64), .long ((((m.1 0 (0 : Int32).toNatClampNeg) - (1 : Int32))).toInt64)] rfl rfl (Nat.le_of_ble_eq_true rfl) dM_isBoard_12 (kM_in G (z, m) ((v1).toInt64) (0 : Int64) ((((m.1 0 (0 : Int32).toNatClampNeg) - (1 : Int32))).toInt64)) (fun r12 => ?_)
  exact xR_zret 15 rfl rfl dM_isBoard_15
theorem dM_isInstrument_0 : decode (xb yyM_isInstrument) 0 = .ok (.iload_n 1, 1) := by decide +kernel
theorem dM_isInstrument_1 : decode (xb yyM_isInstrument) 1 = .ok (.i2l, 1) := by decide +kernel
theorem dM_isInstrument_2 : decode (xb yyM_isInstrument) 2 = .ok (.lconst 0, 1) := by decide +kernel
theorem dM_isInstrument_3 : decode (xb yyM_isInstrument) 3 = .ok (.aload_n 0, 1) := by decide +kernel
theorem dM_isInstrument_4 : decode (xb yyM_isInstrument) 4 = .ok (.getfield 7, 3) := by decide +kernel
theorem dM_isInstrument_7 : decode (xb yyM_isInstrument) 7 = .ok (.iconst 1, 1) := by decide +kernel
theorem dM_isInstrument_8 : decode (xb yyM_isInstrument) 8 = .ok (.iaload, 1) := by decide +kernel
theorem dM_isInstrument_9 : decode (xb yyM_isInstrument) 9 = .ok (.iconst 1, 1) := by decide +kernel
theorem dM_isInstrument_10 : decode (xb yyM_isInstrument) 10 = .ok (.isub, 1) := by decide +kernel
theorem dM_isInstrument_11 : decode (xb yyM_isInstrument) 11 = .ok (.i2l, 1) := by decide +kernel
theorem dM_isInstrument_12 : decode (xb yyM_isInstrument) 12 = .ok (.invokestatic 40, 3) := by decide +kernel
theorem dM_isInstrument_15 : decode (xb yyM_isInstrument) 15 = .ok (.ireturn, 1) := by decide +kernel
def fM_isInstrument  (m : xM) (v1 : Int32) : Option (Int32) := xck 1752 (1 : Int32) ((fM_in ((v1).toInt64) (0 : Int64) ((((m.1 0 (1 : Int32).toNatClampNeg) - (1 : Int32))).toInt64)).bind fun r12 => some (xnb r12))
set_option maxRecDepth 100000 in
set_option maxHeartbeats 4000000 in
theorem kM_isInstrument (G : xG)   (z : xM) (m : xM) (v1 : Int32) : ∀ a, fM_isInstrument m v1 = some a → xCt G yyM_isInstrument [.ref (xa G 85), .int v1] (z, m) (some (.int a)) (z, m) := by
  refine xR_ct (em := (emi (z, m))) rfl (Nat.le_of_ble_eq_true rfl) ?_
  show xR G yyM_isInstrument _ 0 [(0, .ref (xa G 85)), (1, .int v1)] [] _ _
  unfold fM_isInstrument
  refine xR_iln 0 1 dM_isInstrument_0 rfl rfl ?_
  refine xR_i2l 1 dM_isInstrument_1 ?_
  refine xR_lc 2 (0 : Int64) dM_isInstrument_2 (by decide) ?_
  refine xR_aln 3 0 dM_isInstrument_3 rfl rfl ?_
  refine xR_getf 4 xcf7 0 85 (by decide) (by decide) rfl (v := .ref (xa G 86)) rfl fl_RX9_7 dM_isInstrument_4 ?_
  refine xR_ic 7 (1 : Int32) dM_isInstrument_7 (by decide) ?_
  refine xR_iald 8 86 (by decide) rfl dM_isInstrument_8 ?_
  refine xR_ic 9 (1 : Int32) dM_isInstrument_9 (by decide) ?_
  refine xR_isub 10 dM_isInstrument_10 ?_
  refine xR_i2l 11 dM_isInstrument_11 ?_
  refine xR_callSi 12 cs_M_in ml_RX9_40 ⟨Nat.le_of_ble_eq_true rfl, Nat.le_of_ble_eq_true rfl⟩ [.long ((v1).toInt64), .long (0 : Int64), .long ((((m.1 0 (1 : Int32).toNatClampNeg) - (1 : Int32))).toInt64)] rfl rfl (Nat.le_of_ble_eq_true rfl) dM_isInstrument_12 (kM_in G (z, m) ((v1).toInt64) (0 : Int64) ((((m.1 0 (1 : Int32).toNatClampNeg) - (1 : Int32))).toInt64)) (fun r12 => ?_)
  exact xR_zret 15 rfl rfl dM_isInstrument_15
theorem dM_town_0 : decode (xb yyM_town) 0 = .ok (.aload_n 0, 1) := by decide +kernel
theorem dM_town_1 : decode (xb yyM_town) 1 = .ok (.getfield 7, 3) := by decide +kernel
theorem dM_town_4 : decode (xb yyM_town) 4 = .ok (.iconst 0, 1) := by decide +kernel
theorem dM_town_5 : decode (xb yyM_town) 5 = .ok (.iaload, 1) := by decide +kernel
theorem dM_town_6 : decode (xb yyM_town) 6 = .ok (.istore_n 1, 1) := by decide +kernel
theorem dM_town_7 : decode (xb yyM_town) 7 = .ok (.aload_n 0, 1) := by decide +kernel
theorem dM_town_8 : decode (xb yyM_town) 8 = .ok (.iconst 0, 1) := by decide +kernel
theorem dM_town_9 : decode (xb yyM_town) 9 = .ok (.invokevirtual 60, 3) := by decide +kernel
theorem dM_town_12 : decode (xb yyM_town) 12 = .ok (.iload_n 1, 1) := by decide +kernel
theorem dM_town_13 : decode (xb yyM_town) 13 = .ok (.ireturn, 1) := by decide +kernel
def fM_town  (m : xM) : Option (Int32 × xM) := xck 1752 (0 : Int32) ((fM_empties (0 : Int32) m).bind fun r9 => some ((m.1 0 (0 : Int32).toNatClampNeg), r9))
set_option maxRecDepth 100000 in
set_option maxHeartbeats 4000000 in
theorem kM_town (G : xG)   (z : xM) (m : xM) : ∀ a, fM_town  m = some a → xCt G yyM_town [.ref (xa G 85)] (z, m) (some (.int a.1)) (z, a.2) := by
  refine xR_ct (em := (emim z)) rfl (Nat.le_of_ble_eq_true rfl) ?_
  show xR G yyM_town _ 0 [(0, .ref (xa G 85))] [] _ _
  unfold fM_town
  refine xR_aln 0 0 dM_town_0 rfl rfl ?_
  refine xR_getf 1 xcf7 0 85 (by decide) (by decide) rfl (v := .ref (xa G 86)) rfl fl_RX9_7 dM_town_1 ?_
  refine xR_ic 4 (0 : Int32) dM_town_4 (by decide) ?_
  refine xR_iald 5 86 (by decide) rfl dM_town_5 ?_
  refine xR_isn 6 ([(1, .int (m.1 0 (0 : Int32).toNatClampNeg)), (0, .ref (xa G 85))]) dM_town_6 rfl (by decide) rfl ?_
  refine xR_aln 7 1 dM_town_7 rfl rfl ?_
  refine xR_ic 8 (0 : Int32) dM_town_8 (by decide) ?_
  refine xR_callVvm 9 cv_M_empties ml_RX9_60 ⟨Nat.le_of_ble_eq_true rfl, Nat.le_of_ble_eq_true rfl⟩ xcf7 rfl 85 (by decide) rfl [.int (0 : Int32)] rfl rfl (Nat.le_of_ble_eq_true rfl) dM_town_9 (kM_empties G z m (0 : Int32)) (fun r9 => ?_)
  refine xR_iln 12 0 dM_town_12 rfl rfl ?_
  exact xR_iret 13 rfl rfl dM_town_13
theorem dM_wet_0 : decode (xb yyM_wet) 0 = .ok (.iload_n 1, 1) := by decide +kernel
theorem dM_wet_1 : decode (xb yyM_wet) 1 = .ok (.i2l, 1) := by decide +kernel
theorem dM_wet_2 : decode (xb yyM_wet) 2 = .ok (.lconst 0, 1) := by decide +kernel
theorem dM_wet_3 : decode (xb yyM_wet) 3 = .ok (.ldc2_w 64, 3) := by decide +kernel
theorem dM_wet_6 : decode (xb yyM_wet) 6 = .ok (.invokestatic 40, 3) := by decide +kernel
theorem dM_wet_9 : decode (xb yyM_wet) 9 = .ok (.ifCond .eq 15, 3) := by decide +kernel
theorem dM_wet_12 : decode (xb yyM_wet) 12 = .ok (.iload_n 2, 1) := by decide +kernel
theorem dM_wet_13 : decode (xb yyM_wet) 13 = .ok (.i2l, 1) := by decide +kernel
theorem dM_wet_14 : decode (xb yyM_wet) 14 = .ok (.lconst 0, 1) := by decide +kernel
theorem dM_wet_15 : decode (xb yyM_wet) 15 = .ok (.ldc2_w 64, 3) := by decide +kernel
theorem dM_wet_18 : decode (xb yyM_wet) 18 = .ok (.invokestatic 40, 3) := by decide +kernel
theorem dM_wet_21 : decode (xb yyM_wet) 21 = .ok (.ifCond .ne 10, 3) := by decide +kernel
theorem dM_wet_24 : decode (xb yyM_wet) 24 = .ok (.aload_n 0, 1) := by decide +kernel
theorem dM_wet_25 : decode (xb yyM_wet) 25 = .ok (.bipush (-2), 2) := by decide +kernel
theorem dM_wet_27 : decode (xb yyM_wet) 27 = .ok (.invokevirtual 66, 3) := by decide +kernel
theorem dM_wet_30 : decode (xb yyM_wet) 30 = .ok (.ireturn, 1) := by decide +kernel
theorem dM_wet_31 : decode (xb yyM_wet) 31 = .ok (.aload_n 0, 1) := by decide +kernel
theorem dM_wet_32 : decode (xb yyM_wet) 32 = .ok (.getfield 7, 3) := by decide +kernel
theorem dM_wet_35 : decode (xb yyM_wet) 35 = .ok (.iconst 3, 1) := by decide +kernel
theorem dM_wet_36 : decode (xb yyM_wet) 36 = .ok (.iload_n 1, 1) := by decide +kernel
theorem dM_wet_37 : decode (xb yyM_wet) 37 = .ok (.iadd, 1) := by decide +kernel
theorem dM_wet_38 : decode (xb yyM_wet) 38 = .ok (.iaload, 1) := by decide +kernel
theorem dM_wet_39 : decode (xb yyM_wet) 39 = .ok (.istore_n 3, 1) := by decide +kernel
theorem dM_wet_40 : decode (xb yyM_wet) 40 = .ok (.aload_n 0, 1) := by decide +kernel
theorem dM_wet_41 : decode (xb yyM_wet) 41 = .ok (.getfield 7, 3) := by decide +kernel
theorem dM_wet_44 : decode (xb yyM_wet) 44 = .ok (.iconst 3, 1) := by decide +kernel
theorem dM_wet_45 : decode (xb yyM_wet) 45 = .ok (.iload_n 1, 1) := by decide +kernel
theorem dM_wet_46 : decode (xb yyM_wet) 46 = .ok (.iadd, 1) := by decide +kernel
theorem dM_wet_47 : decode (xb yyM_wet) 47 = .ok (.iload_n 2, 1) := by decide +kernel
theorem dM_wet_48 : decode (xb yyM_wet) 48 = .ok (.iastore, 1) := by decide +kernel
theorem dM_wet_49 : decode (xb yyM_wet) 49 = .ok (.aload_n 0, 1) := by decide +kernel
theorem dM_wet_50 : decode (xb yyM_wet) 50 = .ok (.getfield 7, 3) := by decide +kernel
theorem dM_wet_53 : decode (xb yyM_wet) 53 = .ok (.sipush 129, 3) := by decide +kernel
theorem dM_wet_56 : decode (xb yyM_wet) 56 = .ok (.iconst 0, 1) := by decide +kernel
theorem dM_wet_57 : decode (xb yyM_wet) 57 = .ok (.iastore, 1) := by decide +kernel
theorem dM_wet_58 : decode (xb yyM_wet) 58 = .ok (.iload_n 3, 1) := by decide +kernel
theorem dM_wet_59 : decode (xb yyM_wet) 59 = .ok (.ireturn, 1) := by decide +kernel
def fM_wet  (v1 : Int32) (v2 : Int32) (m : xM) : Option (Int32 × xM) := (fM_in ((v1).toInt64) (0 : Int64) (4 : Int64)).bind fun r6 => (if r6 = 0 then (fM_bad (-2 : Int32) m).bind fun r27 => some (r27.1, r27.2) else (fM_in ((v2).toInt64) (0 : Int64) (4 : Int64)).bind fun r18 => (if r18 = 0 then (fM_bad (-2 : Int32) m).bind fun r27 => some (r27.1, r27.2) else xck 1752 ((3 : Int32) + v1) (xck 1752 ((3 : Int32) + v1) (xck 1752 (129 : Int32) (some ((m.1 0 ((3 : Int32) + v1).toNatClampNeg), (xset (xset m 0 ((3 : Int32) + v1).toNatClampNeg v2) 0 (129 : Int32).toNatClampNeg (0 : Int32))))))))
set_option maxRecDepth 100000 in
set_option maxHeartbeats 4000000 in
theorem kM_wet (G : xG)   (z : xM) (m : xM) (v1 : Int32) (v2 : Int32) : ∀ a, fM_wet  v1 v2 m = some a → xCt G yyM_wet [.ref (xa G 85), .int v1, .int v2] (z, m) (some (.int a.1)) (z, a.2) := by
  refine xR_ct (em := (emim z)) rfl (Nat.le_of_ble_eq_true rfl) ?_
  show xR G yyM_wet _ 0 [(0, .ref (xa G 85)), (1, .int v1), (2, .int v2)] [] _ _
  unfold fM_wet
  refine xR_iln 0 1 dM_wet_0 rfl rfl ?_
  refine xR_i2l 1 dM_wet_1 ?_
  refine xR_lc 2 (0 : Int64) dM_wet_2 (by decide) ?_
  refine xR_ldc2 3 cl_RX9_64 dM_wet_3 ?_
  refine xR_callSi 6 cs_M_in ml_RX9_40 ⟨Nat.le_of_ble_eq_true rfl, Nat.le_of_ble_eq_true rfl⟩ [.long ((v1).toInt64), .long (0 : Int64), .long (4 : Int64)] rfl rfl (Nat.le_of_ble_eq_true rfl) dM_wet_6 (kM_in G (z, m) ((v1).toInt64) (0 : Int64) (4 : Int64)) (fun r6 => ?_)
  refine xR_ifeq 9 24 dM_wet_9 (by decide) ?_ ?_
  · refine xR_aln 24 0 dM_wet_24 rfl rfl ?_
    refine xR_bp 25 (-2 : Int32) dM_wet_25 (by decide) ?_
    refine xR_callVim 27 cv_M_bad ml_RX9_66 ⟨Nat.le_of_ble_eq_true rfl, Nat.le_of_ble_eq_true rfl⟩ xcf7 rfl 85 (by decide) rfl [.int (-2 : Int32)] rfl rfl (Nat.le_of_ble_eq_true rfl) dM_wet_27 (kM_bad G z m (-2 : Int32)) (fun r27 => ?_)
    exact xR_iret 30 rfl rfl dM_wet_30
  · refine xR_iln 12 2 dM_wet_12 rfl rfl ?_
    refine xR_i2l 13 dM_wet_13 ?_
    refine xR_lc 14 (0 : Int64) dM_wet_14 (by decide) ?_
    refine xR_ldc2 15 cl_RX9_64 dM_wet_15 ?_
    refine xR_callSi 18 cs_M_in ml_RX9_40 ⟨Nat.le_of_ble_eq_true rfl, Nat.le_of_ble_eq_true rfl⟩ [.long ((v2).toInt64), .long (0 : Int64), .long (4 : Int64)] rfl rfl (Nat.le_of_ble_eq_true rfl) dM_wet_18 (kM_in G (z, m) ((v2).toInt64) (0 : Int64) (4 : Int64)) (fun r18 => ?_)
    refine xR_ifne 21 31 dM_wet_21 (by decide) ?_ ?_
    · refine xR_aln 31 0 dM_wet_31 rfl rfl ?_
      refine xR_getf 32 xcf7 0 85 (by decide) (by decide) rfl (v := .ref (xa G 86)) rfl fl_RX9_7 dM_wet_32 ?_
      refine xR_ic 35 (3 : Int32) dM_wet_35 (by decide) ?_
      refine xR_iln 36 1 dM_wet_36 rfl rfl ?_
      refine xR_iadd 37 dM_wet_37 ?_
      refine xR_iald 38 86 (by decide) rfl dM_wet_38 ?_
      refine xR_isn 39 ([(3, .int (m.1 0 ((3 : Int32) + v1).toNatClampNeg)), (0, .ref (xa G 85)), (1, .int v1), (2, .int v2)]) dM_wet_39 rfl (by decide) rfl ?_
      refine xR_aln 40 1 dM_wet_40 rfl rfl ?_
      refine xR_getf 41 xcf7 0 85 (by decide) (by decide) rfl (v := .ref (xa G 86)) rfl fl_RX9_7 dM_wet_41 ?_
      refine xR_ic 44 (3 : Int32) dM_wet_44 (by decide) ?_
      refine xR_iln 45 2 dM_wet_45 rfl rfl ?_
      refine xR_iadd 46 dM_wet_46 ?_
      refine xR_iln 47 3 dM_wet_47 rfl rfl ?_
      refine xR_iast 48 86 (by decide) rfl (z, (xset m 0 ((3 : Int32) + v1).toNatClampNeg v2)) xW_m0 dM_wet_48 ?_
      refine xR_aln 49 1 dM_wet_49 rfl rfl ?_
      refine xR_getf 50 xcf7 0 85 (by decide) (by decide) rfl (v := .ref (xa G 86)) rfl fl_RX9_7 dM_wet_50 ?_
      refine xR_sp 53 (129 : Int32) dM_wet_53 (by decide) ?_
      refine xR_ic 56 (0 : Int32) dM_wet_56 (by decide) ?_
      refine xR_iast 57 86 (by decide) rfl (z, (xset (xset m 0 ((3 : Int32) + v1).toNatClampNeg v2) 0 (129 : Int32).toNatClampNeg (0 : Int32))) xW_m0 dM_wet_57 ?_
      refine xR_iln 58 0 dM_wet_58 rfl rfl ?_
      exact xR_iret 59 rfl rfl dM_wet_59
    · refine xR_aln 24 0 dM_wet_24 rfl rfl ?_
      refine xR_bp 25 (-2 : Int32) dM_wet_25 (by decide) ?_
      refine xR_callVim 27 cv_M_bad ml_RX9_66 ⟨Nat.le_of_ble_eq_true rfl, Nat.le_of_ble_eq_true rfl⟩ xcf7 rfl 85 (by decide) rfl [.int (-2 : Int32)] rfl rfl (Nat.le_of_ble_eq_true rfl) dM_wet_27 (kM_bad G z m (-2 : Int32)) (fun r27 => ?_)
      exact xR_iret 30 rfl rfl dM_wet_30
theorem dM_adds_0 : decode (xb yyM_adds) 0 = .ok (.aload_n 0, 1) := by decide +kernel
theorem dM_adds_1 : decode (xb yyM_adds) 1 = .ok (.getfield 7, 3) := by decide +kernel
theorem dM_adds_4 : decode (xb yyM_adds) 4 = .ok (.iload_n 1, 1) := by decide +kernel
theorem dM_adds_5 : decode (xb yyM_adds) 5 = .ok (.iconst 0, 1) := by decide +kernel
theorem dM_adds_6 : decode (xb yyM_adds) 6 = .ok (.iadd, 1) := by decide +kernel
theorem dM_adds_7 : decode (xb yyM_adds) 7 = .ok (.iaload, 1) := by decide +kernel
theorem dM_adds_8 : decode (xb yyM_adds) 8 = .ok (.istore 6, 2) := by decide +kernel
theorem dM_adds_10 : decode (xb yyM_adds) 10 = .ok (.aload_n 0, 1) := by decide +kernel
theorem dM_adds_11 : decode (xb yyM_adds) 11 = .ok (.getfield 7, 3) := by decide +kernel
theorem dM_adds_14 : decode (xb yyM_adds) 14 = .ok (.iload_n 1, 1) := by decide +kernel
theorem dM_adds_15 : decode (xb yyM_adds) 15 = .ok (.bipush 8, 2) := by decide +kernel
theorem dM_adds_17 : decode (xb yyM_adds) 17 = .ok (.iadd, 1) := by decide +kernel
theorem dM_adds_18 : decode (xb yyM_adds) 18 = .ok (.iload 6, 2) := by decide +kernel
theorem dM_adds_20 : decode (xb yyM_adds) 20 = .ok (.iadd, 1) := by decide +kernel
theorem dM_adds_21 : decode (xb yyM_adds) 21 = .ok (.iload_n 2, 1) := by decide +kernel
theorem dM_adds_22 : decode (xb yyM_adds) 22 = .ok (.iastore, 1) := by decide +kernel
theorem dM_adds_23 : decode (xb yyM_adds) 23 = .ok (.aload_n 0, 1) := by decide +kernel
theorem dM_adds_24 : decode (xb yyM_adds) 24 = .ok (.getfield 7, 3) := by decide +kernel
theorem dM_adds_27 : decode (xb yyM_adds) 27 = .ok (.iload_n 1, 1) := by decide +kernel
theorem dM_adds_28 : decode (xb yyM_adds) 28 = .ok (.bipush 14, 2) := by decide +kernel
theorem dM_adds_30 : decode (xb yyM_adds) 30 = .ok (.iadd, 1) := by decide +kernel
theorem dM_adds_31 : decode (xb yyM_adds) 31 = .ok (.iload 6, 2) := by decide +kernel
theorem dM_adds_33 : decode (xb yyM_adds) 33 = .ok (.iadd, 1) := by decide +kernel
theorem dM_adds_34 : decode (xb yyM_adds) 34 = .ok (.iload_n 3, 1) := by decide +kernel
theorem dM_adds_35 : decode (xb yyM_adds) 35 = .ok (.iastore, 1) := by decide +kernel
theorem dM_adds_36 : decode (xb yyM_adds) 36 = .ok (.aload_n 0, 1) := by decide +kernel
theorem dM_adds_37 : decode (xb yyM_adds) 37 = .ok (.getfield 7, 3) := by decide +kernel
theorem dM_adds_40 : decode (xb yyM_adds) 40 = .ok (.iload_n 1, 1) := by decide +kernel
theorem dM_adds_41 : decode (xb yyM_adds) 41 = .ok (.bipush 20, 2) := by decide +kernel
theorem dM_adds_43 : decode (xb yyM_adds) 43 = .ok (.iadd, 1) := by decide +kernel
theorem dM_adds_44 : decode (xb yyM_adds) 44 = .ok (.iload 6, 2) := by decide +kernel
theorem dM_adds_46 : decode (xb yyM_adds) 46 = .ok (.iadd, 1) := by decide +kernel
theorem dM_adds_47 : decode (xb yyM_adds) 47 = .ok (.iload 4, 2) := by decide +kernel
theorem dM_adds_49 : decode (xb yyM_adds) 49 = .ok (.iastore, 1) := by decide +kernel
theorem dM_adds_50 : decode (xb yyM_adds) 50 = .ok (.aload_n 0, 1) := by decide +kernel
theorem dM_adds_51 : decode (xb yyM_adds) 51 = .ok (.getfield 7, 3) := by decide +kernel
theorem dM_adds_54 : decode (xb yyM_adds) 54 = .ok (.iload_n 1, 1) := by decide +kernel
theorem dM_adds_55 : decode (xb yyM_adds) 55 = .ok (.bipush 26, 2) := by decide +kernel
theorem dM_adds_57 : decode (xb yyM_adds) 57 = .ok (.iadd, 1) := by decide +kernel
theorem dM_adds_58 : decode (xb yyM_adds) 58 = .ok (.iload 6, 2) := by decide +kernel
theorem dM_adds_60 : decode (xb yyM_adds) 60 = .ok (.iadd, 1) := by decide +kernel
theorem dM_adds_61 : decode (xb yyM_adds) 61 = .ok (.iload 5, 2) := by decide +kernel
theorem dM_adds_63 : decode (xb yyM_adds) 63 = .ok (.iastore, 1) := by decide +kernel
theorem dM_adds_64 : decode (xb yyM_adds) 64 = .ok (.aload_n 0, 1) := by decide +kernel
theorem dM_adds_65 : decode (xb yyM_adds) 65 = .ok (.getfield 7, 3) := by decide +kernel
theorem dM_adds_68 : decode (xb yyM_adds) 68 = .ok (.iload_n 1, 1) := by decide +kernel
theorem dM_adds_69 : decode (xb yyM_adds) 69 = .ok (.bipush 32, 2) := by decide +kernel
theorem dM_adds_71 : decode (xb yyM_adds) 71 = .ok (.iadd, 1) := by decide +kernel
theorem dM_adds_72 : decode (xb yyM_adds) 72 = .ok (.iload 6, 2) := by decide +kernel
theorem dM_adds_74 : decode (xb yyM_adds) 74 = .ok (.iadd, 1) := by decide +kernel
theorem dM_adds_75 : decode (xb yyM_adds) 75 = .ok (.iconst 0, 1) := by decide +kernel
theorem dM_adds_76 : decode (xb yyM_adds) 76 = .ok (.iastore, 1) := by decide +kernel
theorem dM_adds_77 : decode (xb yyM_adds) 77 = .ok (.aload_n 0, 1) := by decide +kernel
theorem dM_adds_78 : decode (xb yyM_adds) 78 = .ok (.getfield 7, 3) := by decide +kernel
theorem dM_adds_81 : decode (xb yyM_adds) 81 = .ok (.iload_n 1, 1) := by decide +kernel
theorem dM_adds_82 : decode (xb yyM_adds) 82 = .ok (.bipush 38, 2) := by decide +kernel
theorem dM_adds_84 : decode (xb yyM_adds) 84 = .ok (.iadd, 1) := by decide +kernel
theorem dM_adds_85 : decode (xb yyM_adds) 85 = .ok (.iload 6, 2) := by decide +kernel
theorem dM_adds_87 : decode (xb yyM_adds) 87 = .ok (.iadd, 1) := by decide +kernel
theorem dM_adds_88 : decode (xb yyM_adds) 88 = .ok (.iconst (-1), 1) := by decide +kernel
theorem dM_adds_89 : decode (xb yyM_adds) 89 = .ok (.iastore, 1) := by decide +kernel
theorem dM_adds_90 : decode (xb yyM_adds) 90 = .ok (.aload_n 0, 1) := by decide +kernel
theorem dM_adds_91 : decode (xb yyM_adds) 91 = .ok (.getfield 7, 3) := by decide +kernel
theorem dM_adds_94 : decode (xb yyM_adds) 94 = .ok (.iload_n 1, 1) := by decide +kernel
theorem dM_adds_95 : decode (xb yyM_adds) 95 = .ok (.iconst 0, 1) := by decide +kernel
theorem dM_adds_96 : decode (xb yyM_adds) 96 = .ok (.iadd, 1) := by decide +kernel
theorem dM_adds_97 : decode (xb yyM_adds) 97 = .ok (.dup2, 1) := by decide +kernel
theorem dM_adds_98 : decode (xb yyM_adds) 98 = .ok (.iaload, 1) := by decide +kernel
theorem dM_adds_99 : decode (xb yyM_adds) 99 = .ok (.iconst 1, 1) := by decide +kernel
theorem dM_adds_100 : decode (xb yyM_adds) 100 = .ok (.iadd, 1) := by decide +kernel
theorem dM_adds_101 : decode (xb yyM_adds) 101 = .ok (.iastore, 1) := by decide +kernel
theorem dM_adds_102 : decode (xb yyM_adds) 102 = .ok (.return_, 1) := by decide +kernel
def fM_adds  (v1 : Int32) (v2 : Int32) (v3 : Int32) (v4 : Int32) (v5 : Int32) (m : xM) : Option (xM) := xck 1752 (v1 + (0 : Int32)) (xck 1752 ((v1 + (8 : Int32)) + (m.1 0 (v1 + (0 : Int32)).toNatClampNeg)) (xck 1752 ((v1 + (14 : Int32)) + (m.1 0 (v1 + (0 : Int32)).toNatClampNeg)) (xck 1752 ((v1 + (20 : Int32)) + (m.1 0 (v1 + (0 : Int32)).toNatClampNeg)) (xck 1752 ((v1 + (26 : Int32)) + (m.1 0 (v1 + (0 : Int32)).toNatClampNeg)) (xck 1752 ((v1 + (32 : Int32)) + (m.1 0 (v1 + (0 : Int32)).toNatClampNeg)) (xck 1752 ((v1 + (38 : Int32)) + (m.1 0 (v1 + (0 : Int32)).toNatClampNeg)) (xck 1752 (v1 + (0 : Int32)) (xck 1752 (v1 + (0 : Int32)) (some (xset (xset (xset (xset (xset (xset (xset m 0 ((v1 + (8 : Int32)) + (m.1 0 (v1 + (0 : Int32)).toNatClampNeg)).toNatClampNeg v2) 0 ((v1 + (14 : Int32)) + (m.1 0 (v1 + (0 : Int32)).toNatClampNeg)).toNatClampNeg v3) 0 ((v1 + (20 : Int32)) + (m.1 0 (v1 + (0 : Int32)).toNatClampNeg)).toNatClampNeg v4) 0 ((v1 + (26 : Int32)) + (m.1 0 (v1 + (0 : Int32)).toNatClampNeg)).toNatClampNeg v5) 0 ((v1 + (32 : Int32)) + (m.1 0 (v1 + (0 : Int32)).toNatClampNeg)).toNatClampNeg (0 : Int32)) 0 ((v1 + (38 : Int32)) + (m.1 0 (v1 + (0 : Int32)).toNatClampNeg)).toNatClampNeg (-1 : Int32)) 0 (v1 + (0 : Int32)).toNatClampNeg (((xset (xset (xset (xset (xset (xset m 0 ((v1 + (8 : Int32)) + (m.1 0 (v1 + (0 : Int32)).toNatClampNeg)).toNatClampNeg v2) 0 ((v1 + (14 : Int32)) + (m.1 0 (v1 + (0 : Int32)).toNatClampNeg)).toNatClampNeg v3) 0 ((v1 + (20 : Int32)) + (m.1 0 (v1 + (0 : Int32)).toNatClampNeg)).toNatClampNeg v4) 0 ((v1 + (26 : Int32)) + (m.1 0 (v1 + (0 : Int32)).toNatClampNeg)).toNatClampNeg v5) 0 ((v1 + (32 : Int32)) + (m.1 0 (v1 + (0 : Int32)).toNatClampNeg)).toNatClampNeg (0 : Int32)) 0 ((v1 + (38 : Int32)) + (m.1 0 (v1 + (0 : Int32)).toNatClampNeg)).toNatClampNeg (-1 : Int32)).1 0 (v1 + (0 : Int32)).toNatClampNeg) + (1 : Int32))))))))))))
set_option maxRecDepth 100000 in
set_option maxHeartbeats 4000000 in
theorem kM_adds (G : xG)   (z : xM) (m : xM) (v1 : Int32) (v2 : Int32) (v3 : Int32) (v4 : Int32) (v5 : Int32) : ∀ a, fM_adds  v1 v2 v3 v4 v5 m = some a → xCt G yyM_adds [.ref (xa G 85), .int v1, .int v2, .int v3, .int v4, .int v5] (z, m) (none) (z, a) := by
  refine xR_ct (em := (emvm z)) rfl (Nat.le_of_ble_eq_true rfl) ?_
  show xR G yyM_adds _ 0 [(0, .ref (xa G 85)), (1, .int v1), (2, .int v2), (3, .int v3), (4, .int v4), (5, .int v5)] [] _ _
  unfold fM_adds
  refine xR_aln 0 0 dM_adds_0 rfl rfl ?_
  refine xR_getf 1 xcf7 0 85 (by decide) (by decide) rfl (v := .ref (xa G 86)) rfl fl_RX9_7 dM_adds_1 ?_
  refine xR_iln 4 1 dM_adds_4 rfl rfl ?_
  refine xR_ic 5 (0 : Int32) dM_adds_5 (by decide) ?_
  refine xR_iadd 6 dM_adds_6 ?_
  refine xR_iald 7 86 (by decide) rfl dM_adds_7 ?_
  refine xR_is 8 ([(6, .int (m.1 0 (v1 + (0 : Int32)).toNatClampNeg)), (0, .ref (xa G 85)), (1, .int v1), (2, .int v2), (3, .int v3), (4, .int v4), (5, .int v5)]) dM_adds_8 (by decide) rfl ?_
  refine xR_aln 10 1 dM_adds_10 rfl rfl ?_
  refine xR_getf 11 xcf7 0 85 (by decide) (by decide) rfl (v := .ref (xa G 86)) rfl fl_RX9_7 dM_adds_11 ?_
  refine xR_iln 14 2 dM_adds_14 rfl rfl ?_
  refine xR_bp 15 (8 : Int32) dM_adds_15 (by decide) ?_
  refine xR_iadd 17 dM_adds_17 ?_
  refine xR_il 18 0 dM_adds_18 rfl ?_
  refine xR_iadd 20 dM_adds_20 ?_
  refine xR_iln 21 3 dM_adds_21 rfl rfl ?_
  refine xR_iast 22 86 (by decide) rfl (z, (xset m 0 ((v1 + (8 : Int32)) + (m.1 0 (v1 + (0 : Int32)).toNatClampNeg)).toNatClampNeg v2)) xW_m0 dM_adds_22 ?_
  refine xR_aln 23 1 dM_adds_23 rfl rfl ?_
  refine xR_getf 24 xcf7 0 85 (by decide) (by decide) rfl (v := .ref (xa G 86)) rfl fl_RX9_7 dM_adds_24 ?_
  refine xR_iln 27 2 dM_adds_27 rfl rfl ?_
  refine xR_bp 28 (14 : Int32) dM_adds_28 (by decide) ?_
  refine xR_iadd 30 dM_adds_30 ?_
  refine xR_il 31 0 dM_adds_31 rfl ?_
  refine xR_iadd 33 dM_adds_33 ?_
  refine xR_iln 34 4 dM_adds_34 rfl rfl ?_
  refine xR_iast 35 86 (by decide) rfl (z, (xset (xset m 0 ((v1 + (8 : Int32)) + (m.1 0 (v1 + (0 : Int32)).toNatClampNeg)).toNatClampNeg v2) 0 ((v1 + (14 : Int32)) + (m.1 0 (v1 + (0 : Int32)).toNatClampNeg)).toNatClampNeg v3)) xW_m0 dM_adds_35 ?_
  refine xR_aln 36 1 dM_adds_36 rfl rfl ?_
  refine xR_getf 37 xcf7 0 85 (by decide) (by decide) rfl (v := .ref (xa G 86)) rfl fl_RX9_7 dM_adds_37 ?_
  refine xR_iln 40 2 dM_adds_40 rfl rfl ?_
  refine xR_bp 41 (20 : Int32) dM_adds_41 (by decide) ?_
  refine xR_iadd 43 dM_adds_43 ?_
  refine xR_il 44 0 dM_adds_44 rfl ?_
  refine xR_iadd 46 dM_adds_46 ?_
  refine xR_il 47 5 dM_adds_47 rfl ?_
  refine xR_iast 49 86 (by decide) rfl (z, (xset (xset (xset m 0 ((v1 + (8 : Int32)) + (m.1 0 (v1 + (0 : Int32)).toNatClampNeg)).toNatClampNeg v2) 0 ((v1 + (14 : Int32)) + (m.1 0 (v1 + (0 : Int32)).toNatClampNeg)).toNatClampNeg v3) 0 ((v1 + (20 : Int32)) + (m.1 0 (v1 + (0 : Int32)).toNatClampNeg)).toNatClampNeg v4)) xW_m0 dM_adds_49 ?_
  refine xR_aln 50 1 dM_adds_50 rfl rfl ?_
  refine xR_getf 51 xcf7 0 85 (by decide) (by decide) rfl (v := .ref (xa G 86)) rfl fl_RX9_7 dM_adds_51 ?_
  refine xR_iln 54 2 dM_adds_54 rfl rfl ?_
  refine xR_bp 55 (26 : Int32) dM_adds_55 (by decide) ?_
  refine xR_iadd 57 dM_adds_57 ?_
  refine xR_il 58 0 dM_adds_58 rfl ?_
  refine xR_iadd 60 dM_adds_60 ?_
  refine xR_il 61 6 dM_adds_61 rfl ?_
  refine xR_iast 63 86 (by decide) rfl (z, (xset (xset (xset (xset m 0 ((v1 + (8 : Int32)) + (m.1 0 (v1 + (0 : Int32)).toNatClampNeg)).toNatClampNeg v2) 0 ((v1 + (14 : Int32)) + (m.1 0 (v1 + (0 : Int32)).toNatClampNeg)).toNatClampNeg v3) 0 ((v1 + (20 : Int32)) + (m.1 0 (v1 + (0 : Int32)).toNatClampNeg)).toNatClampNeg v4) 0 ((v1 + (26 : Int32)) + (m.1 0 (v1 + (0 : Int32)).toNatClampNeg)).toNatClampNeg v5)) xW_m0 dM_adds_63 ?_
  refine xR_aln 64 1 dM_adds_64 rfl rfl ?_
  refine xR_getf 65 xcf7 0 85 (by decide) (by decide) rfl (v := .ref (xa G 86)) rfl fl_RX9_7 dM_adds_65 ?_
  refine xR_iln 68 2 dM_adds_68 rfl rfl ?_
  refine xR_bp 69 (32 : Int32) dM_adds_69 (by decide) ?_
  refine xR_iadd 71 dM_adds_71 ?_
  refine xR_il 72 0 dM_adds_72 rfl ?_
  refine xR_iadd 74 dM_adds_74 ?_
  refine xR_ic 75 (0 : Int32) dM_adds_75 (by decide) ?_
  refine xR_iast 76 86 (by decide) rfl (z, (xset (xset (xset (xset (xset m 0 ((v1 + (8 : Int32)) + (m.1 0 (v1 + (0 : Int32)).toNatClampNeg)).toNatClampNeg v2) 0 ((v1 + (14 : Int32)) + (m.1 0 (v1 + (0 : Int32)).toNatClampNeg)).toNatClampNeg v3) 0 ((v1 + (20 : Int32)) + (m.1 0 (v1 + (0 : Int32)).toNatClampNeg)).toNatClampNeg v4) 0 ((v1 + (26 : Int32)) + (m.1 0 (v1 + (0 : Int32)).toNatClampNeg)).toNatClampNeg v5) 0 ((v1 + (32 : Int32)) + (m.1 0 (v1 + (0 : Int32)).toNatClampNeg)).toNatClampNeg (0 : Int32))) xW_m0 dM_adds_76 ?_
  refine xR_aln 77 1 dM_adds_77 rfl rfl ?_
  refine xR_getf 78 xcf7 0 85 (by decide) (by decide) rfl (v := .ref (xa G 86)) rfl fl_RX9_7 dM_adds_78 ?_
  refine xR_iln 81 2 dM_adds_81 rfl rfl ?_
  refine xR_bp 82 (38 : Int32) dM_adds_82 (by decide) ?_
  refine xR_iadd 84 dM_adds_84 ?_
  refine xR_il 85 0 dM_adds_85 rfl ?_
  refine xR_iadd 87 dM_adds_87 ?_
  refine xR_ic 88 (-1 : Int32) dM_adds_88 (by decide) ?_
  refine xR_iast 89 86 (by decide) rfl (z, (xset (xset (xset (xset (xset (xset m 0 ((v1 + (8 : Int32)) + (m.1 0 (v1 + (0 : Int32)).toNatClampNeg)).toNatClampNeg v2) 0 ((v1 + (14 : Int32)) + (m.1 0 (v1 + (0 : Int32)).toNatClampNeg)).toNatClampNeg v3) 0 ((v1 + (20 : Int32)) + (m.1 0 (v1 + (0 : Int32)).toNatClampNeg)).toNatClampNeg v4) 0 ((v1 + (26 : Int32)) + (m.1 0 (v1 + (0 : Int32)).toNatClampNeg)).toNatClampNeg v5) 0 ((v1 + (32 : Int32)) + (m.1 0 (v1 + (0 : Int32)).toNatClampNeg)).toNatClampNeg (0 : Int32)) 0 ((v1 + (38 : Int32)) + (m.1 0 (v1 + (0 : Int32)).toNatClampNeg)).toNatClampNeg (-1 : Int32))) xW_m0 dM_adds_89 ?_
  refine xR_aln 90 1 dM_adds_90 rfl rfl ?_
  refine xR_getf 91 xcf7 0 85 (by decide) (by decide) rfl (v := .ref (xa G 86)) rfl fl_RX9_7 dM_adds_91 ?_
  refine xR_iln 94 2 dM_adds_94 rfl rfl ?_
  refine xR_ic 95 (0 : Int32) dM_adds_95 (by decide) ?_
  refine xR_iadd 96 dM_adds_96 ?_
  refine xR_dup2 97 dM_adds_97 rfl rfl ?_
  refine xR_iald 98 86 (by decide) rfl dM_adds_98 ?_
  refine xR_ic 99 (1 : Int32) dM_adds_99 (by decide) ?_
  refine xR_iadd 100 dM_adds_100 ?_
  refine xR_iast 101 86 (by decide) rfl (z, (xset (xset (xset (xset (xset (xset (xset m 0 ((v1 + (8 : Int32)) + (m.1 0 (v1 + (0 : Int32)).toNatClampNeg)).toNatClampNeg v2) 0 ((v1 + (14 : Int32)) + (m.1 0 (v1 + (0 : Int32)).toNatClampNeg)).toNatClampNeg v3) 0 ((v1 + (20 : Int32)) + (m.1 0 (v1 + (0 : Int32)).toNatClampNeg)).toNatClampNeg v4) 0 ((v1 + (26 : Int32)) + (m.1 0 (v1 + (0 : Int32)).toNatClampNeg)).toNatClampNeg v5) 0 ((v1 + (32 : Int32)) + (m.1 0 (v1 + (0 : Int32)).toNatClampNeg)).toNatClampNeg (0 : Int32)) 0 ((v1 + (38 : Int32)) + (m.1 0 (v1 + (0 : Int32)).toNatClampNeg)).toNatClampNeg (-1 : Int32)) 0 (v1 + (0 : Int32)).toNatClampNeg (((xset (xset (xset (xset (xset (xset m 0 ((v1 + (8 : Int32)) + (m.1 0 (v1 + (0 : Int32)).toNatClampNeg)).toNatClampNeg v2) 0 ((v1 + (14 : Int32)) + (m.1 0 (v1 + (0 : Int32)).toNatClampNeg)).toNatClampNeg v3) 0 ((v1 + (20 : Int32)) + (m.1 0 (v1 + (0 : Int32)).toNatClampNeg)).toNatClampNeg v4) 0 ((v1 + (26 : Int32)) + (m.1 0 (v1 + (0 : Int32)).toNatClampNeg)).toNatClampNeg v5) 0 ((v1 + (32 : Int32)) + (m.1 0 (v1 + (0 : Int32)).toNatClampNeg)).toNatClampNeg (0 : Int32)) 0 ((v1 + (38 : Int32)) + (m.1 0 (v1 + (0 : Int32)).toNatClampNeg)).toNatClampNeg (-1 : Int32)).1 0 (v1 + (0 : Int32)).toNatClampNeg) + (1 : Int32)))) xW_m0 dM_adds_101 ?_
  exact xR_vret 102 rfl rfl dM_adds_102
theorem dM_board_0 : decode (xb yyM_board) 0 = .ok (.iload_n 1, 1) := by decide +kernel
theorem dM_board_1 : decode (xb yyM_board) 1 = .ok (.i2l, 1) := by decide +kernel
theorem dM_board_2 : decode (xb yyM_board) 2 = .ok (.lconst 0, 1) := by decide +kernel
theorem dM_board_3 : decode (xb yyM_board) 3 = .ok (.ldc2_w 70, 3) := by decide +kernel
theorem dM_board_6 : decode (xb yyM_board) 6 = .ok (.invokestatic 40, 3) := by decide +kernel
theorem dM_board_9 : decode (xb yyM_board) 9 = .ok (.ifCond .eq 40, 3) := by decide +kernel
theorem dM_board_12 : decode (xb yyM_board) 12 = .ok (.iload_n 2, 1) := by decide +kernel
theorem dM_board_13 : decode (xb yyM_board) 13 = .ok (.i2l, 1) := by decide +kernel
theorem dM_board_14 : decode (xb yyM_board) 14 = .ok (.lconst 0, 1) := by decide +kernel
theorem dM_board_15 : decode (xb yyM_board) 15 = .ok (.ldc2_w 72, 3) := by decide +kernel
theorem dM_board_18 : decode (xb yyM_board) 18 = .ok (.invokestatic 40, 3) := by decide +kernel
theorem dM_board_21 : decode (xb yyM_board) 21 = .ok (.ifCond .eq 28, 3) := by decide +kernel
theorem dM_board_24 : decode (xb yyM_board) 24 = .ok (.iload_n 3, 1) := by decide +kernel
theorem dM_board_25 : decode (xb yyM_board) 25 = .ok (.i2l, 1) := by decide +kernel
theorem dM_board_26 : decode (xb yyM_board) 26 = .ok (.lconst 0, 1) := by decide +kernel
theorem dM_board_27 : decode (xb yyM_board) 27 = .ok (.ldc2_w 74, 3) := by decide +kernel
theorem dM_board_30 : decode (xb yyM_board) 30 = .ok (.invokestatic 40, 3) := by decide +kernel
theorem dM_board_33 : decode (xb yyM_board) 33 = .ok (.ifCond .eq 16, 3) := by decide +kernel
theorem dM_board_36 : decode (xb yyM_board) 36 = .ok (.iload 4, 2) := by decide +kernel
theorem dM_board_38 : decode (xb yyM_board) 38 = .ok (.i2l, 1) := by decide +kernel
theorem dM_board_39 : decode (xb yyM_board) 39 = .ok (.lconst 0, 1) := by decide +kernel
theorem dM_board_40 : decode (xb yyM_board) 40 = .ok (.ldc2_w 44, 3) := by decide +kernel
theorem dM_board_43 : decode (xb yyM_board) 43 = .ok (.invokestatic 40, 3) := by decide +kernel
theorem dM_board_46 : decode (xb yyM_board) 46 = .ok (.ifCond .ne 10, 3) := by decide +kernel
theorem dM_board_49 : decode (xb yyM_board) 49 = .ok (.aload_n 0, 1) := by decide +kernel
theorem dM_board_50 : decode (xb yyM_board) 50 = .ok (.bipush (-2), 2) := by decide +kernel
theorem dM_board_52 : decode (xb yyM_board) 52 = .ok (.invokevirtual 66, 3) := by decide +kernel
theorem dM_board_55 : decode (xb yyM_board) 55 = .ok (.ireturn, 1) := by decide +kernel
theorem dM_board_56 : decode (xb yyM_board) 56 = .ok (.aload_n 0, 1) := by decide +kernel
theorem dM_board_57 : decode (xb yyM_board) 57 = .ok (.getfield 7, 3) := by decide +kernel
theorem dM_board_60 : decode (xb yyM_board) 60 = .ok (.iconst 0, 1) := by decide +kernel
theorem dM_board_61 : decode (xb yyM_board) 61 = .ok (.iaload, 1) := by decide +kernel
theorem dM_board_62 : decode (xb yyM_board) 62 = .ok (.bipush 6, 2) := by decide +kernel
theorem dM_board_64 : decode (xb yyM_board) 64 = .ok (.if_icmp .ne 8, 3) := by decide +kernel
theorem dM_board_67 : decode (xb yyM_board) 67 = .ok (.aload_n 0, 1) := by decide +kernel
theorem dM_board_68 : decode (xb yyM_board) 68 = .ok (.invokevirtual 76, 3) := by decide +kernel
theorem dM_board_71 : decode (xb yyM_board) 71 = .ok (.ireturn, 1) := by decide +kernel
theorem dM_board_72 : decode (xb yyM_board) 72 = .ok (.aload_n 0, 1) := by decide +kernel
theorem dM_board_73 : decode (xb yyM_board) 73 = .ok (.iconst 0, 1) := by decide +kernel
theorem dM_board_74 : decode (xb yyM_board) 74 = .ok (.iload_n 1, 1) := by decide +kernel
theorem dM_board_75 : decode (xb yyM_board) 75 = .ok (.iload_n 2, 1) := by decide +kernel
theorem dM_board_76 : decode (xb yyM_board) 76 = .ok (.iload_n 3, 1) := by decide +kernel
theorem dM_board_77 : decode (xb yyM_board) 77 = .ok (.iload 4, 2) := by decide +kernel
theorem dM_board_79 : decode (xb yyM_board) 79 = .ok (.invokevirtual 80, 3) := by decide +kernel
theorem dM_board_82 : decode (xb yyM_board) 82 = .ok (.aload_n 0, 1) := by decide +kernel
theorem dM_board_83 : decode (xb yyM_board) 83 = .ok (.getfield 7, 3) := by decide +kernel
theorem dM_board_86 : decode (xb yyM_board) 86 = .ok (.sipush 129, 3) := by decide +kernel
theorem dM_board_89 : decode (xb yyM_board) 89 = .ok (.iconst 0, 1) := by decide +kernel
theorem dM_board_90 : decode (xb yyM_board) 90 = .ok (.iastore, 1) := by decide +kernel
theorem dM_board_91 : decode (xb yyM_board) 91 = .ok (.aload_n 0, 1) := by decide +kernel
theorem dM_board_92 : decode (xb yyM_board) 92 = .ok (.getfield 7, 3) := by decide +kernel
theorem dM_board_95 : decode (xb yyM_board) 95 = .ok (.iconst 0, 1) := by decide +kernel
theorem dM_board_96 : decode (xb yyM_board) 96 = .ok (.iaload, 1) := by decide +kernel
theorem dM_board_97 : decode (xb yyM_board) 97 = .ok (.iconst 1, 1) := by decide +kernel
theorem dM_board_98 : decode (xb yyM_board) 98 = .ok (.isub, 1) := by decide +kernel
theorem dM_board_99 : decode (xb yyM_board) 99 = .ok (.ireturn, 1) := by decide +kernel
def fM_board  (v1 : Int32) (v2 : Int32) (v3 : Int32) (v4 : Int32) (m : xM) : Option (Int32 × xM) := (fM_in ((v1).toInt64) (0 : Int64) (5 : Int64)).bind fun r6 => (if r6 = 0 then (fM_bad (-2 : Int32) m).bind fun r52 => some (r52.1, r52.2) else (fM_in ((v2).toInt64) (0 : Int64) (99 : Int64)).bind fun r18 => (if r18 = 0 then (fM_bad (-2 : Int32) m).bind fun r52 => some (r52.1, r52.2) else (fM_in ((v3).toInt64) (0 : Int64) (9 : Int64)).bind fun r30 => (if r30 = 0 then (fM_bad (-2 : Int32) m).bind fun r52 => some (r52.1, r52.2) else (fM_in ((v4).toInt64) (0 : Int64) (3 : Int64)).bind fun r43 => (if r43 = 0 then (fM_bad (-2 : Int32) m).bind fun r52 => some (r52.1, r52.2) else xck 1752 (0 : Int32) ((if (m.1 0 (0 : Int32).toNatClampNeg) = (6 : Int32) then (fM_full m).bind fun r68 => some (r68.1, r68.2) else (fM_adds (0 : Int32) v1 v2 v3 v4 m).bind fun r79 => xck 1752 (129 : Int32) (xck 1752 (0 : Int32) (some ((((xset r79 0 (129 : Int32).toNatClampNeg (0 : Int32)).1 0 (0 : Int32).toNatClampNeg) - (1 : Int32)), (xset r79 0 (129 : Int32).toNatClampNeg (0 : Int32)))))))))))
set_option maxRecDepth 100000 in
set_option maxHeartbeats 4000000 in
theorem kM_board (G : xG)   (z : xM) (m : xM) (v1 : Int32) (v2 : Int32) (v3 : Int32) (v4 : Int32) : ∀ a, fM_board  v1 v2 v3 v4 m = some a → xCt G yyM_board [.ref (xa G 85), .int v1, .int v2, .int v3, .int v4] (z, m) (some (.int a.1)) (z, a.2) := by
  refine xR_ct (em := (emim z)) rfl (Nat.le_of_ble_eq_true rfl) ?_
  show xR G yyM_board _ 0 [(0, .ref (xa G 85)), (1, .int v1), (2, .int v2), (3, .int v3), (4, .int v4)] [] _ _
  unfold fM_board
  refine xR_iln 0 1 dM_board_0 rfl rfl ?_
  refine xR_i2l 1 dM_board_1 ?_
  refine xR_lc 2 (0 : Int64) dM_board_2 (by decide) ?_
  refine xR_ldc2 3 cl_RX9_70 dM_board_3 ?_
  refine xR_callSi 6 cs_M_in ml_RX9_40 ⟨Nat.le_of_ble_eq_true rfl, Nat.le_of_ble_eq_true rfl⟩ [.long ((v1).toInt64), .long (0 : Int64), .long (5 : Int64)] rfl rfl (Nat.le_of_ble_eq_true rfl) dM_board_6 (kM_in G (z, m) ((v1).toInt64) (0 : Int64) (5 : Int64)) (fun r6 => ?_)
  refine xR_ifeq 9 49 dM_board_9 (by decide) ?_ ?_
  · refine xR_aln 49 0 dM_board_49 rfl rfl ?_
    refine xR_bp 50 (-2 : Int32) dM_board_50 (by decide) ?_
    refine xR_callVim 52 cv_M_bad ml_RX9_66 ⟨Nat.le_of_ble_eq_true rfl, Nat.le_of_ble_eq_true rfl⟩ xcf7 rfl 85 (by decide) rfl [.int (-2 : Int32)] rfl rfl (Nat.le_of_ble_eq_true rfl) dM_board_52 (kM_bad G z m (-2 : Int32)) (fun r52 => ?_)
    exact xR_iret 55 rfl rfl dM_board_55
  · refine xR_iln 12 2 dM_board_12 rfl rfl ?_
    refine xR_i2l 13 dM_board_13 ?_
    refine xR_lc 14 (0 : Int64) dM_board_14 (by decide) ?_
    refine xR_ldc2 15 cl_RX9_72 dM_board_15 ?_
    refine xR_callSi 18 cs_M_in ml_RX9_40 ⟨Nat.le_of_ble_eq_true rfl, Nat.le_of_ble_eq_true rfl⟩ [.long ((v2).toInt64), .long (0 : Int64), .long (99 : Int64)] rfl rfl (Nat.le_of_ble_eq_true rfl) dM_board_18 (kM_in G (z, m) ((v2).toInt64) (0 : Int64) (99 : Int64)) (fun r18 => ?_)
    refine xR_ifeq 21 49 dM_board_21 (by decide) ?_ ?_
    · refine xR_aln 49 0 dM_board_49 rfl rfl ?_
      refine xR_bp 50 (-2 : Int32) dM_board_50 (by decide) ?_
      refine xR_callVim 52 cv_M_bad ml_RX9_66 ⟨Nat.le_of_ble_eq_true rfl, Nat.le_of_ble_eq_true rfl⟩ xcf7 rfl 85 (by decide) rfl [.int (-2 : Int32)] rfl rfl (Nat.le_of_ble_eq_true rfl) dM_board_52 (kM_bad G z m (-2 : Int32)) (fun r52 => ?_)
      exact xR_iret 55 rfl rfl dM_board_55
    · refine xR_iln 24 3 dM_board_24 rfl rfl ?_
      refine xR_i2l 25 dM_board_25 ?_
      refine xR_lc 26 (0 : Int64) dM_board_26 (by decide) ?_
      refine xR_ldc2 27 cl_RX9_74 dM_board_27 ?_
      refine xR_callSi 30 cs_M_in ml_RX9_40 ⟨Nat.le_of_ble_eq_true rfl, Nat.le_of_ble_eq_true rfl⟩ [.long ((v3).toInt64), .long (0 : Int64), .long (9 : Int64)] rfl rfl (Nat.le_of_ble_eq_true rfl) dM_board_30 (kM_in G (z, m) ((v3).toInt64) (0 : Int64) (9 : Int64)) (fun r30 => ?_)
      refine xR_ifeq 33 49 dM_board_33 (by decide) ?_ ?_
      · refine xR_aln 49 0 dM_board_49 rfl rfl ?_
        refine xR_bp 50 (-2 : Int32) dM_board_50 (by decide) ?_
        refine xR_callVim 52 cv_M_bad ml_RX9_66 ⟨Nat.le_of_ble_eq_true rfl, Nat.le_of_ble_eq_true rfl⟩ xcf7 rfl 85 (by decide) rfl [.int (-2 : Int32)] rfl rfl (Nat.le_of_ble_eq_true rfl) dM_board_52 (kM_bad G z m (-2 : Int32)) (fun r52 => ?_)
        exact xR_iret 55 rfl rfl dM_board_55
      · refine xR_il 36 4 dM_board_36 rfl ?_
        refine xR_i2l 38 dM_board_38 ?_
        refine xR_lc 39 (0 : Int64) dM_board_39 (by decide) ?_
        refine xR_ldc2 40 cl_RX9_44 dM_board_40 ?_
        refine xR_callSi 43 cs_M_in ml_RX9_40 ⟨Nat.le_of_ble_eq_true rfl, Nat.le_of_ble_eq_true rfl⟩ [.long ((v4).toInt64), .long (0 : Int64), .long (3 : Int64)] rfl rfl (Nat.le_of_ble_eq_true rfl) dM_board_43 (kM_in G (z, m) ((v4).toInt64) (0 : Int64) (3 : Int64)) (fun r43 => ?_)
        refine xR_ifne 46 56 dM_board_46 (by decide) ?_ ?_
        · refine xR_aln 56 0 dM_board_56 rfl rfl ?_
          refine xR_getf 57 xcf7 0 85 (by decide) (by decide) rfl (v := .ref (xa G 86)) rfl fl_RX9_7 dM_board_57 ?_
          refine xR_ic 60 (0 : Int32) dM_board_60 (by decide) ?_
          refine xR_iald 61 86 (by decide) rfl dM_board_61 ?_
          refine xR_bp 62 (6 : Int32) dM_board_62 (by decide) ?_
          refine xR_icne 64 72 dM_board_64 (by decide) ?_ ?_
          · refine xR_aln 72 0 dM_board_72 rfl rfl ?_
            refine xR_ic 73 (0 : Int32) dM_board_73 (by decide) ?_
            refine xR_iln 74 1 dM_board_74 rfl rfl ?_
            refine xR_iln 75 2 dM_board_75 rfl rfl ?_
            refine xR_iln 76 3 dM_board_76 rfl rfl ?_
            refine xR_il 77 4 dM_board_77 rfl ?_
            refine xR_callVvm 79 cv_M_adds ml_RX9_80 ⟨Nat.le_of_ble_eq_true rfl, Nat.le_of_ble_eq_true rfl⟩ xcf7 rfl 85 (by decide) rfl [.int (0 : Int32), .int v1, .int v2, .int v3, .int v4] rfl rfl (Nat.le_of_ble_eq_true rfl) dM_board_79 (kM_adds G z m (0 : Int32) v1 v2 v3 v4) (fun r79 => ?_)
            refine xR_aln 82 0 dM_board_82 rfl rfl ?_
            refine xR_getf 83 xcf7 0 85 (by decide) (by decide) rfl (v := .ref (xa G 86)) rfl fl_RX9_7 dM_board_83 ?_
            refine xR_sp 86 (129 : Int32) dM_board_86 (by decide) ?_
            refine xR_ic 89 (0 : Int32) dM_board_89 (by decide) ?_
            refine xR_iast 90 86 (by decide) rfl (z, (xset r79 0 (129 : Int32).toNatClampNeg (0 : Int32))) xW_m0 dM_board_90 ?_
            refine xR_aln 91 0 dM_board_91 rfl rfl ?_
            refine xR_getf 92 xcf7 0 85 (by decide) (by decide) rfl (v := .ref (xa G 86)) rfl fl_RX9_7 dM_board_92 ?_
            refine xR_ic 95 (0 : Int32) dM_board_95 (by decide) ?_
            refine xR_iald 96 86 (by decide) rfl dM_board_96 ?_
            refine xR_ic 97 (1 : Int32) dM_board_97 (by decide) ?_
            refine xR_isub 98 dM_board_98 ?_
            exact xR_iret 99 rfl rfl dM_board_99
          · refine xR_aln 67 0 dM_board_67 rfl rfl ?_
            refine xR_callVim 68 cv_M_full ml_RX9_76 ⟨Nat.le_of_ble_eq_true rfl, Nat.le_of_ble_eq_true rfl⟩ xcf7 rfl 85 (by decide) rfl [] rfl rfl (Nat.le_of_ble_eq_true rfl) dM_board_68 (kM_full G z m) (fun r68 => ?_)
            exact xR_iret 71 rfl rfl dM_board_71
        · refine xR_aln 49 0 dM_board_49 rfl rfl ?_
          refine xR_bp 50 (-2 : Int32) dM_board_50 (by decide) ?_
          refine xR_callVim 52 cv_M_bad ml_RX9_66 ⟨Nat.le_of_ble_eq_true rfl, Nat.le_of_ble_eq_true rfl⟩ xcf7 rfl 85 (by decide) rfl [.int (-2 : Int32)] rfl rfl (Nat.le_of_ble_eq_true rfl) dM_board_52 (kM_bad G z m (-2 : Int32)) (fun r52 => ?_)
          exact xR_iret 55 rfl rfl dM_board_55
theorem dM_make_0 : decode (xb yyM_make) 0 = .ok (.iload_n 1, 1) := by decide +kernel
theorem dM_make_1 : decode (xb yyM_make) 1 = .ok (.i2l, 1) := by decide +kernel
theorem dM_make_2 : decode (xb yyM_make) 2 = .ok (.lconst 0, 1) := by decide +kernel
theorem dM_make_3 : decode (xb yyM_make) 3 = .ok (.ldc2_w 70, 3) := by decide +kernel
theorem dM_make_6 : decode (xb yyM_make) 6 = .ok (.invokestatic 40, 3) := by decide +kernel
theorem dM_make_9 : decode (xb yyM_make) 9 = .ok (.ifCond .ne 10, 3) := by decide +kernel
theorem dM_make_12 : decode (xb yyM_make) 12 = .ok (.aload_n 0, 1) := by decide +kernel
theorem dM_make_13 : decode (xb yyM_make) 13 = .ok (.bipush (-2), 2) := by decide +kernel
theorem dM_make_15 : decode (xb yyM_make) 15 = .ok (.invokevirtual 66, 3) := by decide +kernel
theorem dM_make_18 : decode (xb yyM_make) 18 = .ok (.ireturn, 1) := by decide +kernel
theorem dM_make_19 : decode (xb yyM_make) 19 = .ok (.aload_n 0, 1) := by decide +kernel
theorem dM_make_20 : decode (xb yyM_make) 20 = .ok (.getfield 7, 3) := by decide +kernel
theorem dM_make_23 : decode (xb yyM_make) 23 = .ok (.iconst 1, 1) := by decide +kernel
theorem dM_make_24 : decode (xb yyM_make) 24 = .ok (.iaload, 1) := by decide +kernel
theorem dM_make_25 : decode (xb yyM_make) 25 = .ok (.iconst 4, 1) := by decide +kernel
theorem dM_make_26 : decode (xb yyM_make) 26 = .ok (.if_icmp .ne 8, 3) := by decide +kernel
theorem dM_make_29 : decode (xb yyM_make) 29 = .ok (.aload_n 0, 1) := by decide +kernel
theorem dM_make_30 : decode (xb yyM_make) 30 = .ok (.invokevirtual 76, 3) := by decide +kernel
theorem dM_make_33 : decode (xb yyM_make) 33 = .ok (.ireturn, 1) := by decide +kernel
theorem dM_make_34 : decode (xb yyM_make) 34 = .ok (.aload_n 0, 1) := by decide +kernel
theorem dM_make_35 : decode (xb yyM_make) 35 = .ok (.getfield 7, 3) := by decide +kernel
theorem dM_make_38 : decode (xb yyM_make) 38 = .ok (.bipush 44, 2) := by decide +kernel
theorem dM_make_40 : decode (xb yyM_make) 40 = .ok (.aload_n 0, 1) := by decide +kernel
theorem dM_make_41 : decode (xb yyM_make) 41 = .ok (.getfield 7, 3) := by decide +kernel
theorem dM_make_44 : decode (xb yyM_make) 44 = .ok (.iconst 1, 1) := by decide +kernel
theorem dM_make_45 : decode (xb yyM_make) 45 = .ok (.iaload, 1) := by decide +kernel
theorem dM_make_46 : decode (xb yyM_make) 46 = .ok (.iadd, 1) := by decide +kernel
theorem dM_make_47 : decode (xb yyM_make) 47 = .ok (.iload_n 1, 1) := by decide +kernel
theorem dM_make_48 : decode (xb yyM_make) 48 = .ok (.iastore, 1) := by decide +kernel
theorem dM_make_49 : decode (xb yyM_make) 49 = .ok (.aload_n 0, 1) := by decide +kernel
theorem dM_make_50 : decode (xb yyM_make) 50 = .ok (.getfield 7, 3) := by decide +kernel
theorem dM_make_53 : decode (xb yyM_make) 53 = .ok (.iconst 1, 1) := by decide +kernel
theorem dM_make_54 : decode (xb yyM_make) 54 = .ok (.dup2, 1) := by decide +kernel
theorem dM_make_55 : decode (xb yyM_make) 55 = .ok (.iaload, 1) := by decide +kernel
theorem dM_make_56 : decode (xb yyM_make) 56 = .ok (.iconst 1, 1) := by decide +kernel
theorem dM_make_57 : decode (xb yyM_make) 57 = .ok (.iadd, 1) := by decide +kernel
theorem dM_make_58 : decode (xb yyM_make) 58 = .ok (.iastore, 1) := by decide +kernel
theorem dM_make_59 : decode (xb yyM_make) 59 = .ok (.aload_n 0, 1) := by decide +kernel
theorem dM_make_60 : decode (xb yyM_make) 60 = .ok (.getfield 7, 3) := by decide +kernel
theorem dM_make_63 : decode (xb yyM_make) 63 = .ok (.sipush 129, 3) := by decide +kernel
theorem dM_make_66 : decode (xb yyM_make) 66 = .ok (.iconst 0, 1) := by decide +kernel
theorem dM_make_67 : decode (xb yyM_make) 67 = .ok (.iastore, 1) := by decide +kernel
theorem dM_make_68 : decode (xb yyM_make) 68 = .ok (.aload_n 0, 1) := by decide +kernel
theorem dM_make_69 : decode (xb yyM_make) 69 = .ok (.getfield 7, 3) := by decide +kernel
theorem dM_make_72 : decode (xb yyM_make) 72 = .ok (.iconst 1, 1) := by decide +kernel
theorem dM_make_73 : decode (xb yyM_make) 73 = .ok (.iaload, 1) := by decide +kernel
theorem dM_make_74 : decode (xb yyM_make) 74 = .ok (.iconst 1, 1) := by decide +kernel
theorem dM_make_75 : decode (xb yyM_make) 75 = .ok (.isub, 1) := by decide +kernel
theorem dM_make_76 : decode (xb yyM_make) 76 = .ok (.ireturn, 1) := by decide +kernel
def fM_make  (v1 : Int32) (m : xM) : Option (Int32 × xM) := (fM_in ((v1).toInt64) (0 : Int64) (5 : Int64)).bind fun r6 => (if r6 = 0 then (fM_bad (-2 : Int32) m).bind fun r15 => some (r15.1, r15.2) else xck 1752 (1 : Int32) ((if (m.1 0 (1 : Int32).toNatClampNeg) = (4 : Int32) then (fM_full m).bind fun r30 => some (r30.1, r30.2) else xck 1752 (1 : Int32) (xck 1752 ((44 : Int32) + (m.1 0 (1 : Int32).toNatClampNeg)) (xck 1752 (1 : Int32) (xck 1752 (1 : Int32) (xck 1752 (129 : Int32) (xck 1752 (1 : Int32) (some ((((xset (xset (xset m 0 ((44 : Int32) + (m.1 0 (1 : Int32).toNatClampNeg)).toNatClampNeg v1) 0 (1 : Int32).toNatClampNeg (((xset m 0 ((44 : Int32) + (m.1 0 (1 : Int32).toNatClampNeg)).toNatClampNeg v1).1 0 (1 : Int32).toNatClampNeg) + (1 : Int32))) 0 (129 : Int32).toNatClampNeg (0 : Int32)).1 0 (1 : Int32).toNatClampNeg) - (1 : Int32)), (xset (xset (xset m 0 ((44 : Int32) + (m.1 0 (1 : Int32).toNatClampNeg)).toNatClampNeg v1) 0 (1 : Int32).toNatClampNeg (((xset m 0 ((44 : Int32) + (m.1 0 (1 : Int32).toNatClampNeg)).toNatClampNeg v1).1 0 (1 : Int32).toNatClampNeg) + (1 : Int32))) 0 (129 : Int32).toNatClampNeg (0 : Int32))))))))))))
set_option maxRecDepth 100000 in
set_option maxHeartbeats 4000000 in
theorem kM_make (G : xG)   (z : xM) (m : xM) (v1 : Int32) : ∀ a, fM_make  v1 m = some a → xCt G yyM_make [.ref (xa G 85), .int v1] (z, m) (some (.int a.1)) (z, a.2) := by
  refine xR_ct (em := (emim z)) rfl (Nat.le_of_ble_eq_true rfl) ?_
  show xR G yyM_make _ 0 [(0, .ref (xa G 85)), (1, .int v1)] [] _ _
  unfold fM_make
  refine xR_iln 0 1 dM_make_0 rfl rfl ?_
  refine xR_i2l 1 dM_make_1 ?_
  refine xR_lc 2 (0 : Int64) dM_make_2 (by decide) ?_
  refine xR_ldc2 3 cl_RX9_70 dM_make_3 ?_
  refine xR_callSi 6 cs_M_in ml_RX9_40 ⟨Nat.le_of_ble_eq_true rfl, Nat.le_of_ble_eq_true rfl⟩ [.long ((v1).toInt64), .long (0 : Int64), .long (5 : Int64)] rfl rfl (Nat.le_of_ble_eq_true rfl) dM_make_6 (kM_in G (z, m) ((v1).toInt64) (0 : Int64) (5 : Int64)) (fun r6 => ?_)
  refine xR_ifne 9 19 dM_make_9 (by decide) ?_ ?_
  · refine xR_aln 19 0 dM_make_19 rfl rfl ?_
    refine xR_getf 20 xcf7 0 85 (by decide) (by decide) rfl (v := .ref (xa G 86)) rfl fl_RX9_7 dM_make_20 ?_
    refine xR_ic 23 (1 : Int32) dM_make_23 (by decide) ?_
    refine xR_iald 24 86 (by decide) rfl dM_make_24 ?_
    refine xR_ic 25 (4 : Int32) dM_make_25 (by decide) ?_
    refine xR_icne 26 34 dM_make_26 (by decide) ?_ ?_
    · refine xR_aln 34 0 dM_make_34 rfl rfl ?_
      refine xR_getf 35 xcf7 0 85 (by decide) (by decide) rfl (v := .ref (xa G 86)) rfl fl_RX9_7 dM_make_35 ?_
      refine xR_bp 38 (44 : Int32) dM_make_38 (by decide) ?_
      refine xR_aln 40 0 dM_make_40 rfl rfl ?_
      refine xR_getf 41 xcf7 0 85 (by decide) (by decide) rfl (v := .ref (xa G 86)) rfl fl_RX9_7 dM_make_41 ?_
      refine xR_ic 44 (1 : Int32) dM_make_44 (by decide) ?_
      refine xR_iald 45 86 (by decide) rfl dM_make_45 ?_
      refine xR_iadd 46 dM_make_46 ?_
      refine xR_iln 47 1 dM_make_47 rfl rfl ?_
      refine xR_iast 48 86 (by decide) rfl (z, (xset m 0 ((44 : Int32) + (m.1 0 (1 : Int32).toNatClampNeg)).toNatClampNeg v1)) xW_m0 dM_make_48 ?_
      refine xR_aln 49 0 dM_make_49 rfl rfl ?_
      refine xR_getf 50 xcf7 0 85 (by decide) (by decide) rfl (v := .ref (xa G 86)) rfl fl_RX9_7 dM_make_50 ?_
      refine xR_ic 53 (1 : Int32) dM_make_53 (by decide) ?_
      refine xR_dup2 54 dM_make_54 rfl rfl ?_
      refine xR_iald 55 86 (by decide) rfl dM_make_55 ?_
      refine xR_ic 56 (1 : Int32) dM_make_56 (by decide) ?_
      refine xR_iadd 57 dM_make_57 ?_
      refine xR_iast 58 86 (by decide) rfl (z, (xset (xset m 0 ((44 : Int32) + (m.1 0 (1 : Int32).toNatClampNeg)).toNatClampNeg v1) 0 (1 : Int32).toNatClampNeg (((xset m 0 ((44 : Int32) + (m.1 0 (1 : Int32).toNatClampNeg)).toNatClampNeg v1).1 0 (1 : Int32).toNatClampNeg) + (1 : Int32)))) xW_m0 dM_make_58 ?_
      refine xR_aln 59 0 dM_make_59 rfl rfl ?_
      refine xR_getf 60 xcf7 0 85 (by decide) (by decide) rfl (v := .ref (xa G 86)) rfl fl_RX9_7 dM_make_60 ?_
      refine xR_sp 63 (129 : Int32) dM_make_63 (by decide) ?_
      refine xR_ic 66 (0 : Int32) dM_make_66 (by decide) ?_
      refine xR_iast 67 86 (by decide) rfl (z, (xset (xset (xset m 0 ((44 : Int32) + (m.1 0 (1 : Int32).toNatClampNeg)).toNatClampNeg v1) 0 (1 : Int32).toNatClampNeg (((xset m 0 ((44 : Int32) + (m.1 0 (1 : Int32).toNatClampNeg)).toNatClampNeg v1).1 0 (1 : Int32).toNatClampNeg) + (1 : Int32))) 0 (129 : Int32).toNatClampNeg (0 : Int32))) xW_m0 dM_make_67 ?_
      refine xR_aln 68 0 dM_make_68 rfl rfl ?_
      refine xR_getf 69 xcf7 0 85 (by decide) (by decide) rfl (v := .ref (xa G 86)) rfl fl_RX9_7 dM_make_69 ?_
      refine xR_ic 72 (1 : Int32) dM_make_72 (by decide) ?_
      refine xR_iald 73 86 (by decide) rfl dM_make_73 ?_
      refine xR_ic 74 (1 : Int32) dM_make_74 (by decide) ?_
      refine xR_isub 75 dM_make_75 ?_
      exact xR_iret 76 rfl rfl dM_make_76
    · refine xR_aln 29 0 dM_make_29 rfl rfl ?_
      refine xR_callVim 30 cv_M_full ml_RX9_76 ⟨Nat.le_of_ble_eq_true rfl, Nat.le_of_ble_eq_true rfl⟩ xcf7 rfl 85 (by decide) rfl [] rfl rfl (Nat.le_of_ble_eq_true rfl) dM_make_30 (kM_full G z m) (fun r30 => ?_)
      exact xR_iret 33 rfl rfl dM_make_33
  · refine xR_aln 12 0 dM_make_12 rfl rfl ?_
    refine xR_bp 13 (-2 : Int32) dM_make_13 (by decide) ?_
    refine xR_callVim 15 cv_M_bad ml_RX9_66 ⟨Nat.le_of_ble_eq_true rfl, Nat.le_of_ble_eq_true rfl⟩ xcf7 rfl 85 (by decide) rfl [.int (-2 : Int32)] rfl rfl (Nat.le_of_ble_eq_true rfl) dM_make_15 (kM_bad G z m (-2 : Int32)) (fun r15 => ?_)
    exact xR_iret 18 rfl rfl dM_make_18
theorem dM_worm_0 : decode (xb yyM_worm) 0 = .ok (.aload_n 0, 1) := by decide +kernel
theorem dM_worm_1 : decode (xb yyM_worm) 1 = .ok (.iload_n 1, 1) := by decide +kernel
theorem dM_worm_2 : decode (xb yyM_worm) 2 = .ok (.invokevirtual 84, 3) := by decide +kernel
theorem dM_worm_5 : decode (xb yyM_worm) 5 = .ok (.ifCond .eq 13, 3) := by decide +kernel
theorem dM_worm_8 : decode (xb yyM_worm) 8 = .ok (.iload_n 2, 1) := by decide +kernel
theorem dM_worm_9 : decode (xb yyM_worm) 9 = .ok (.i2l, 1) := by decide +kernel
theorem dM_worm_10 : decode (xb yyM_worm) 10 = .ok (.lconst 0, 1) := by decide +kernel
theorem dM_worm_11 : decode (xb yyM_worm) 11 = .ok (.lconst 1, 1) := by decide +kernel
theorem dM_worm_12 : decode (xb yyM_worm) 12 = .ok (.invokestatic 40, 3) := by decide +kernel
theorem dM_worm_15 : decode (xb yyM_worm) 15 = .ok (.ifCond .ne 10, 3) := by decide +kernel
theorem dM_worm_18 : decode (xb yyM_worm) 18 = .ok (.aload_n 0, 1) := by decide +kernel
theorem dM_worm_19 : decode (xb yyM_worm) 19 = .ok (.bipush (-2), 2) := by decide +kernel
theorem dM_worm_21 : decode (xb yyM_worm) 21 = .ok (.invokevirtual 66, 3) := by decide +kernel
theorem dM_worm_24 : decode (xb yyM_worm) 24 = .ok (.ireturn, 1) := by decide +kernel
theorem dM_worm_25 : decode (xb yyM_worm) 25 = .ok (.aload_n 0, 1) := by decide +kernel
theorem dM_worm_26 : decode (xb yyM_worm) 26 = .ok (.getfield 7, 3) := by decide +kernel
theorem dM_worm_29 : decode (xb yyM_worm) 29 = .ok (.bipush 32, 2) := by decide +kernel
theorem dM_worm_31 : decode (xb yyM_worm) 31 = .ok (.iload_n 1, 1) := by decide +kernel
theorem dM_worm_32 : decode (xb yyM_worm) 32 = .ok (.iadd, 1) := by decide +kernel
theorem dM_worm_33 : decode (xb yyM_worm) 33 = .ok (.iaload, 1) := by decide +kernel
theorem dM_worm_34 : decode (xb yyM_worm) 34 = .ok (.istore_n 3, 1) := by decide +kernel
theorem dM_worm_35 : decode (xb yyM_worm) 35 = .ok (.aload_n 0, 1) := by decide +kernel
theorem dM_worm_36 : decode (xb yyM_worm) 36 = .ok (.getfield 7, 3) := by decide +kernel
theorem dM_worm_39 : decode (xb yyM_worm) 39 = .ok (.bipush 32, 2) := by decide +kernel
theorem dM_worm_41 : decode (xb yyM_worm) 41 = .ok (.iload_n 1, 1) := by decide +kernel
theorem dM_worm_42 : decode (xb yyM_worm) 42 = .ok (.iadd, 1) := by decide +kernel
theorem dM_worm_43 : decode (xb yyM_worm) 43 = .ok (.iload_n 2, 1) := by decide +kernel
theorem dM_worm_44 : decode (xb yyM_worm) 44 = .ok (.iastore, 1) := by decide +kernel
theorem dM_worm_45 : decode (xb yyM_worm) 45 = .ok (.aload_n 0, 1) := by decide +kernel
theorem dM_worm_46 : decode (xb yyM_worm) 46 = .ok (.getfield 7, 3) := by decide +kernel
theorem dM_worm_49 : decode (xb yyM_worm) 49 = .ok (.sipush 129, 3) := by decide +kernel
theorem dM_worm_52 : decode (xb yyM_worm) 52 = .ok (.iconst 0, 1) := by decide +kernel
theorem dM_worm_53 : decode (xb yyM_worm) 53 = .ok (.iastore, 1) := by decide +kernel
theorem dM_worm_54 : decode (xb yyM_worm) 54 = .ok (.iload_n 3, 1) := by decide +kernel
theorem dM_worm_55 : decode (xb yyM_worm) 55 = .ok (.ireturn, 1) := by decide +kernel
def fM_worm  (v1 : Int32) (v2 : Int32) (m : xM) : Option (Int32 × xM) := (fM_isBoard m v1).bind fun r2 => (if r2 = 0 then (fM_bad (-2 : Int32) m).bind fun r21 => some (r21.1, r21.2) else (fM_in ((v2).toInt64) (0 : Int64) (1 : Int64)).bind fun r12 => (if r12 = 0 then (fM_bad (-2 : Int32) m).bind fun r21 => some (r21.1, r21.2) else xck 1752 ((32 : Int32) + v1) (xck 1752 ((32 : Int32) + v1) (xck 1752 (129 : Int32) (some ((m.1 0 ((32 : Int32) + v1).toNatClampNeg), (xset (xset m 0 ((32 : Int32) + v1).toNatClampNeg v2) 0 (129 : Int32).toNatClampNeg (0 : Int32))))))))
set_option maxRecDepth 100000 in
set_option maxHeartbeats 4000000 in
theorem kM_worm (G : xG)   (z : xM) (m : xM) (v1 : Int32) (v2 : Int32) : ∀ a, fM_worm  v1 v2 m = some a → xCt G yyM_worm [.ref (xa G 85), .int v1, .int v2] (z, m) (some (.int a.1)) (z, a.2) := by
  refine xR_ct (em := (emim z)) rfl (Nat.le_of_ble_eq_true rfl) ?_
  show xR G yyM_worm _ 0 [(0, .ref (xa G 85)), (1, .int v1), (2, .int v2)] [] _ _
  unfold fM_worm
  refine xR_aln 0 0 dM_worm_0 rfl rfl ?_
  refine xR_iln 1 1 dM_worm_1 rfl rfl ?_
  refine xR_callVi 2 cv_M_isBoard ml_RX9_84 ⟨Nat.le_of_ble_eq_true rfl, Nat.le_of_ble_eq_true rfl⟩ xcf7 rfl 85 (by decide) rfl [.int v1] rfl rfl (Nat.le_of_ble_eq_true rfl) dM_worm_2 (kM_isBoard G z m v1) (fun r2 => ?_)
  refine xR_ifeq 5 18 dM_worm_5 (by decide) ?_ ?_
  · refine xR_aln 18 0 dM_worm_18 rfl rfl ?_
    refine xR_bp 19 (-2 : Int32) dM_worm_19 (by decide) ?_
    refine xR_callVim 21 cv_M_bad ml_RX9_66 ⟨Nat.le_of_ble_eq_true rfl, Nat.le_of_ble_eq_true rfl⟩ xcf7 rfl 85 (by decide) rfl [.int (-2 : Int32)] rfl rfl (Nat.le_of_ble_eq_true rfl) dM_worm_21 (kM_bad G z m (-2 : Int32)) (fun r21 => ?_)
    exact xR_iret 24 rfl rfl dM_worm_24
  · refine xR_iln 8 2 dM_worm_8 rfl rfl ?_
    refine xR_i2l 9 dM_worm_9 ?_
    refine xR_lc 10 (0 : Int64) dM_worm_10 (by decide) ?_
    refine xR_lc 11 (1 : Int64) dM_worm_11 (by decide) ?_
    refine xR_callSi 12 cs_M_in ml_RX9_40 ⟨Nat.le_of_ble_eq_true rfl, Nat.le_of_ble_eq_true rfl⟩ [.long ((v2).toInt64), .long (0 : Int64), .long (1 : Int64)] rfl rfl (Nat.le_of_ble_eq_true rfl) dM_worm_12 (kM_in G (z, m) ((v2).toInt64) (0 : Int64) (1 : Int64)) (fun r12 => ?_)
    refine xR_ifne 15 25 dM_worm_15 (by decide) ?_ ?_
    · refine xR_aln 25 0 dM_worm_25 rfl rfl ?_
      refine xR_getf 26 xcf7 0 85 (by decide) (by decide) rfl (v := .ref (xa G 86)) rfl fl_RX9_7 dM_worm_26 ?_
      refine xR_bp 29 (32 : Int32) dM_worm_29 (by decide) ?_
      refine xR_iln 31 1 dM_worm_31 rfl rfl ?_
      refine xR_iadd 32 dM_worm_32 ?_
      refine xR_iald 33 86 (by decide) rfl dM_worm_33 ?_
      refine xR_isn 34 ([(3, .int (m.1 0 ((32 : Int32) + v1).toNatClampNeg)), (0, .ref (xa G 85)), (1, .int v1), (2, .int v2)]) dM_worm_34 rfl (by decide) rfl ?_
      refine xR_aln 35 1 dM_worm_35 rfl rfl ?_
      refine xR_getf 36 xcf7 0 85 (by decide) (by decide) rfl (v := .ref (xa G 86)) rfl fl_RX9_7 dM_worm_36 ?_
      refine xR_bp 39 (32 : Int32) dM_worm_39 (by decide) ?_
      refine xR_iln 41 2 dM_worm_41 rfl rfl ?_
      refine xR_iadd 42 dM_worm_42 ?_
      refine xR_iln 43 3 dM_worm_43 rfl rfl ?_
      refine xR_iast 44 86 (by decide) rfl (z, (xset m 0 ((32 : Int32) + v1).toNatClampNeg v2)) xW_m0 dM_worm_44 ?_
      refine xR_aln 45 1 dM_worm_45 rfl rfl ?_
      refine xR_getf 46 xcf7 0 85 (by decide) (by decide) rfl (v := .ref (xa G 86)) rfl fl_RX9_7 dM_worm_46 ?_
      refine xR_sp 49 (129 : Int32) dM_worm_49 (by decide) ?_
      refine xR_ic 52 (0 : Int32) dM_worm_52 (by decide) ?_
      refine xR_iast 53 86 (by decide) rfl (z, (xset (xset m 0 ((32 : Int32) + v1).toNatClampNeg v2) 0 (129 : Int32).toNatClampNeg (0 : Int32))) xW_m0 dM_worm_53 ?_
      refine xR_iln 54 0 dM_worm_54 rfl rfl ?_
      exact xR_iret 55 rfl rfl dM_worm_55
    · refine xR_aln 18 0 dM_worm_18 rfl rfl ?_
      refine xR_bp 19 (-2 : Int32) dM_worm_19 (by decide) ?_
      refine xR_callVim 21 cv_M_bad ml_RX9_66 ⟨Nat.le_of_ble_eq_true rfl, Nat.le_of_ble_eq_true rfl⟩ xcf7 rfl 85 (by decide) rfl [.int (-2 : Int32)] rfl rfl (Nat.le_of_ble_eq_true rfl) dM_worm_21 (kM_bad G z m (-2 : Int32)) (fun r21 => ?_)
      exact xR_iret 24 rfl rfl dM_worm_24
theorem dM_type_0 : decode (xb yyM_type) 0 = .ok (.iload_n 1, 1) := by decide +kernel
theorem dM_type_1 : decode (xb yyM_type) 1 = .ok (.i2l, 1) := by decide +kernel
theorem dM_type_2 : decode (xb yyM_type) 2 = .ok (.lconst 0, 1) := by decide +kernel
theorem dM_type_3 : decode (xb yyM_type) 3 = .ok (.ldc2_w 88, 3) := by decide +kernel
theorem dM_type_6 : decode (xb yyM_type) 6 = .ok (.invokestatic 40, 3) := by decide +kernel
theorem dM_type_9 : decode (xb yyM_type) 9 = .ok (.ifCond .ne 10, 3) := by decide +kernel
theorem dM_type_12 : decode (xb yyM_type) 12 = .ok (.aload_n 0, 1) := by decide +kernel
theorem dM_type_13 : decode (xb yyM_type) 13 = .ok (.bipush (-2), 2) := by decide +kernel
theorem dM_type_15 : decode (xb yyM_type) 15 = .ok (.invokevirtual 66, 3) := by decide +kernel
theorem dM_type_18 : decode (xb yyM_type) 18 = .ok (.ireturn, 1) := by decide +kernel
theorem dM_type_19 : decode (xb yyM_type) 19 = .ok (.aload_n 0, 1) := by decide +kernel
theorem dM_type_20 : decode (xb yyM_type) 20 = .ok (.getfield 36, 3) := by decide +kernel
theorem dM_type_23 : decode (xb yyM_type) 23 = .ok (.sipush 150, 3) := by decide +kernel
theorem dM_type_26 : decode (xb yyM_type) 26 = .ok (.if_icmp .ne 8, 3) := by decide +kernel
theorem dM_type_29 : decode (xb yyM_type) 29 = .ok (.aload_n 0, 1) := by decide +kernel
theorem dM_type_30 : decode (xb yyM_type) 30 = .ok (.invokevirtual 76, 3) := by decide +kernel
theorem dM_type_33 : decode (xb yyM_type) 33 = .ok (.ireturn, 1) := by decide +kernel
theorem dM_type_34 : decode (xb yyM_type) 34 = .ok (.aload_n 0, 1) := by decide +kernel
theorem dM_type_35 : decode (xb yyM_type) 35 = .ok (.getfield 17, 3) := by decide +kernel
theorem dM_type_38 : decode (xb yyM_type) 38 = .ok (.aload_n 0, 1) := by decide +kernel
theorem dM_type_39 : decode (xb yyM_type) 39 = .ok (.getfield 36, 3) := by decide +kernel
theorem dM_type_42 : decode (xb yyM_type) 42 = .ok (.iload_n 1, 1) := by decide +kernel
theorem dM_type_43 : decode (xb yyM_type) 43 = .ok (.iastore, 1) := by decide +kernel
theorem dM_type_44 : decode (xb yyM_type) 44 = .ok (.aload_n 0, 1) := by decide +kernel
theorem dM_type_45 : decode (xb yyM_type) 45 = .ok (.dup, 1) := by decide +kernel
theorem dM_type_46 : decode (xb yyM_type) 46 = .ok (.getfield 36, 3) := by decide +kernel
theorem dM_type_49 : decode (xb yyM_type) 49 = .ok (.iconst 1, 1) := by decide +kernel
theorem dM_type_50 : decode (xb yyM_type) 50 = .ok (.iadd, 1) := by decide +kernel
theorem dM_type_51 : decode (xb yyM_type) 51 = .ok (.putfield 36, 3) := by decide +kernel
theorem dM_type_54 : decode (xb yyM_type) 54 = .ok (.aload_n 0, 1) := by decide +kernel
theorem dM_type_55 : decode (xb yyM_type) 55 = .ok (.getfield 36, 3) := by decide +kernel
theorem dM_type_58 : decode (xb yyM_type) 58 = .ok (.ireturn, 1) := by decide +kernel
def fM_type  (v1 : Int32) (m : xM) : Option (Int32 × xM) := (fM_in ((v1).toInt64) (0 : Int64) (127 : Int64)).bind fun r6 => (if r6 = 0 then (fM_bad (-2 : Int32) m).bind fun r15 => some (r15.1, r15.2) else (if (m.1 6 0) = (150 : Int32) then (fM_full m).bind fun r30 => some (r30.1, r30.2) else xck 150 (m.1 6 0) (some (((xset (xset m 2 (m.1 6 0).toNatClampNeg v1) 6 0 (((xset m 2 (m.1 6 0).toNatClampNeg v1).1 6 0) + (1 : Int32))).1 6 0), (xset (xset m 2 (m.1 6 0).toNatClampNeg v1) 6 0 (((xset m 2 (m.1 6 0).toNatClampNeg v1).1 6 0) + (1 : Int32)))))))
set_option maxRecDepth 100000 in
set_option maxHeartbeats 4000000 in
theorem kM_type (G : xG)   (z : xM) (m : xM) (v1 : Int32) : ∀ a, fM_type  v1 m = some a → xCt G yyM_type [.ref (xa G 85), .int v1] (z, m) (some (.int a.1)) (z, a.2) := by
  refine xR_ct (em := (emim z)) rfl (Nat.le_of_ble_eq_true rfl) ?_
  show xR G yyM_type _ 0 [(0, .ref (xa G 85)), (1, .int v1)] [] _ _
  unfold fM_type
  refine xR_iln 0 1 dM_type_0 rfl rfl ?_
  refine xR_i2l 1 dM_type_1 ?_
  refine xR_lc 2 (0 : Int64) dM_type_2 (by decide) ?_
  refine xR_ldc2 3 cl_RX9_88 dM_type_3 ?_
  refine xR_callSi 6 cs_M_in ml_RX9_40 ⟨Nat.le_of_ble_eq_true rfl, Nat.le_of_ble_eq_true rfl⟩ [.long ((v1).toInt64), .long (0 : Int64), .long (127 : Int64)] rfl rfl (Nat.le_of_ble_eq_true rfl) dM_type_6 (kM_in G (z, m) ((v1).toInt64) (0 : Int64) (127 : Int64)) (fun r6 => ?_)
  refine xR_ifne 9 19 dM_type_9 (by decide) ?_ ?_
  · refine xR_aln 19 0 dM_type_19 rfl rfl ?_
    refine xR_getf 20 xcf7 3 85 (by decide) (by decide) rfl (v := .int (m.1 6 0)) rfl fl_RX9_36 dM_type_20 ?_
    refine xR_sp 23 (150 : Int32) dM_type_23 (by decide) ?_
    refine xR_icne 26 34 dM_type_26 (by decide) ?_ ?_
    · refine xR_aln 34 0 dM_type_34 rfl rfl ?_
      refine xR_getf 35 xcf7 2 85 (by decide) (by decide) rfl (v := .ref (xa G 88)) rfl fl_RX9_17 dM_type_35 ?_
      refine xR_aln 38 0 dM_type_38 rfl rfl ?_
      refine xR_getf 39 xcf7 3 85 (by decide) (by decide) rfl (v := .int (m.1 6 0)) rfl fl_RX9_36 dM_type_39 ?_
      refine xR_iln 42 1 dM_type_42 rfl rfl ?_
      refine xR_iast 43 88 (by decide) rfl (z, (xset m 2 (m.1 6 0).toNatClampNeg v1)) xW_m2 dM_type_43 ?_
      refine xR_aln 44 0 dM_type_44 rfl rfl ?_
      refine xR_dup 45 dM_type_45 rfl ?_
      refine xR_getf 46 xcf7 3 85 (by decide) (by decide) rfl (v := .int ((xset m 2 (m.1 6 0).toNatClampNeg v1).1 6 0)) rfl fl_RX9_36 dM_type_46 ?_
      refine xR_ic 49 (1 : Int32) dM_type_49 (by decide) ?_
      refine xR_iadd 50 dM_type_50 ?_
      refine xR_putf 51 xcf7 3 85 (by decide) (by decide) rfl rfl rfl rfl (Nat.le_of_ble_eq_true rfl) (z, (xset (xset m 2 (m.1 6 0).toNatClampNeg v1) 6 0 (((xset m 2 (m.1 6 0).toNatClampNeg v1).1 6 0) + (1 : Int32)))) (xW_mint (i := 0) rfl) fl_RX9_36 dM_type_51 ?_
      refine xR_aln 54 0 dM_type_54 rfl rfl ?_
      refine xR_getf 55 xcf7 3 85 (by decide) (by decide) rfl (v := .int ((xset (xset m 2 (m.1 6 0).toNatClampNeg v1) 6 0 (((xset m 2 (m.1 6 0).toNatClampNeg v1).1 6 0) + (1 : Int32))).1 6 0)) rfl fl_RX9_36 dM_type_55 ?_
      exact xR_iret 58 rfl rfl dM_type_58
    · refine xR_aln 29 0 dM_type_29 rfl rfl ?_
      refine xR_callVim 30 cv_M_full ml_RX9_76 ⟨Nat.le_of_ble_eq_true rfl, Nat.le_of_ble_eq_true rfl⟩ xcf7 rfl 85 (by decide) rfl [] rfl rfl (Nat.le_of_ble_eq_true rfl) dM_type_30 (kM_full G z m) (fun r30 => ?_)
      exact xR_iret 33 rfl rfl dM_type_33
  · refine xR_aln 12 0 dM_type_12 rfl rfl ?_
    refine xR_bp 13 (-2 : Int32) dM_type_13 (by decide) ?_
    refine xR_callVim 15 cv_M_bad ml_RX9_66 ⟨Nat.le_of_ble_eq_true rfl, Nat.le_of_ble_eq_true rfl⟩ xcf7 rfl 85 (by decide) rfl [.int (-2 : Int32)] rfl rfl (Nat.le_of_ble_eq_true rfl) dM_type_15 (kM_bad G z m (-2 : Int32)) (fun r15 => ?_)
    exact xR_iret 18 rfl rfl dM_type_18
theorem dM_clear_0 : decode (xb yyM_clear) 0 = .ok (.aload_n 0, 1) := by decide +kernel
theorem dM_clear_1 : decode (xb yyM_clear) 1 = .ok (.getfield 36, 3) := by decide +kernel
theorem dM_clear_4 : decode (xb yyM_clear) 4 = .ok (.istore_n 1, 1) := by decide +kernel
theorem dM_clear_5 : decode (xb yyM_clear) 5 = .ok (.aload_n 0, 1) := by decide +kernel
theorem dM_clear_6 : decode (xb yyM_clear) 6 = .ok (.iconst 0, 1) := by decide +kernel
theorem dM_clear_7 : decode (xb yyM_clear) 7 = .ok (.putfield 36, 3) := by decide +kernel
theorem dM_clear_10 : decode (xb yyM_clear) 10 = .ok (.iload_n 1, 1) := by decide +kernel
theorem dM_clear_11 : decode (xb yyM_clear) 11 = .ok (.ireturn, 1) := by decide +kernel
def fM_clear  (m : xM) : Option (Int32 × xM) := some ((m.1 6 0), (xset m 6 0 (0 : Int32)))
set_option maxRecDepth 100000 in
set_option maxHeartbeats 4000000 in
theorem kM_clear (G : xG)   (z : xM) (m : xM) : ∀ a, fM_clear  m = some a → xCt G yyM_clear [.ref (xa G 85)] (z, m) (some (.int a.1)) (z, a.2) := by
  refine xR_ct (em := (emim z)) rfl (Nat.le_of_ble_eq_true rfl) ?_
  show xR G yyM_clear _ 0 [(0, .ref (xa G 85))] [] _ _
  unfold fM_clear
  refine xR_aln 0 0 dM_clear_0 rfl rfl ?_
  refine xR_getf 1 xcf7 3 85 (by decide) (by decide) rfl (v := .int (m.1 6 0)) rfl fl_RX9_36 dM_clear_1 ?_
  refine xR_isn 4 ([(1, .int (m.1 6 0)), (0, .ref (xa G 85))]) dM_clear_4 rfl (by decide) rfl ?_
  refine xR_aln 5 1 dM_clear_5 rfl rfl ?_
  refine xR_ic 6 (0 : Int32) dM_clear_6 (by decide) ?_
  refine xR_putf 7 xcf7 3 85 (by decide) (by decide) rfl rfl rfl rfl (Nat.le_of_ble_eq_true rfl) (z, (xset m 6 0 (0 : Int32))) (xW_mint (i := 0) rfl) fl_RX9_36 dM_clear_7 ?_
  refine xR_iln 10 0 dM_clear_10 rfl rfl ?_
  exact xR_iret 11 rfl rfl dM_clear_11
theorem dM_byteAt_0 : decode (xb yyM_byteAt) 0 = .ok (.iload_n 1, 1) := by decide +kernel
theorem dM_byteAt_1 : decode (xb yyM_byteAt) 1 = .ok (.aload_n 0, 1) := by decide +kernel
theorem dM_byteAt_2 : decode (xb yyM_byteAt) 2 = .ok (.getfield 36, 3) := by decide +kernel
theorem dM_byteAt_5 : decode (xb yyM_byteAt) 5 = .ok (.if_icmp .ge 12, 3) := by decide +kernel
theorem dM_byteAt_8 : decode (xb yyM_byteAt) 8 = .ok (.aload_n 0, 1) := by decide +kernel
theorem dM_byteAt_9 : decode (xb yyM_byteAt) 9 = .ok (.getfield 17, 3) := by decide +kernel
theorem dM_byteAt_12 : decode (xb yyM_byteAt) 12 = .ok (.iload_n 1, 1) := by decide +kernel
theorem dM_byteAt_13 : decode (xb yyM_byteAt) 13 = .ok (.iaload, 1) := by decide +kernel
theorem dM_byteAt_14 : decode (xb yyM_byteAt) 14 = .ok (.goto 4, 3) := by decide +kernel
theorem dM_byteAt_17 : decode (xb yyM_byteAt) 17 = .ok (.iconst (-1), 1) := by decide +kernel
theorem dM_byteAt_18 : decode (xb yyM_byteAt) 18 = .ok (.ireturn, 1) := by decide +kernel
def fM_byteAt  (m : xM) (v1 : Int32) : Option (Int32) := (if (m.1 6 0) ≤ v1 then some (-1 : Int32) else xck 150 v1 (some (m.1 2 v1.toNatClampNeg)))
set_option maxRecDepth 100000 in
set_option maxHeartbeats 4000000 in
theorem kM_byteAt (G : xG)   (z : xM) (m : xM) (v1 : Int32) : ∀ a, fM_byteAt m v1 = some a → xCt G yyM_byteAt [.ref (xa G 85), .int v1] (z, m) (some (.int a)) (z, m) := by
  refine xR_ct (em := (emi (z, m))) rfl (Nat.le_of_ble_eq_true rfl) ?_
  show xR G yyM_byteAt _ 0 [(0, .ref (xa G 85)), (1, .int v1)] [] _ _
  unfold fM_byteAt
  refine xR_iln 0 1 dM_byteAt_0 rfl rfl ?_
  refine xR_aln 1 0 dM_byteAt_1 rfl rfl ?_
  refine xR_getf 2 xcf7 3 85 (by decide) (by decide) rfl (v := .int (m.1 6 0)) rfl fl_RX9_36 dM_byteAt_2 ?_
  refine xR_icge 5 17 dM_byteAt_5 (by decide) ?_ ?_
  · refine xR_ic 17 (-1 : Int32) dM_byteAt_17 (by decide) ?_
    exact xR_iret 18 rfl rfl dM_byteAt_18
  · refine xR_aln 8 0 dM_byteAt_8 rfl rfl ?_
    refine xR_getf 9 xcf7 2 85 (by decide) (by decide) rfl (v := .ref (xa G 88)) rfl fl_RX9_17 dM_byteAt_9 ?_
    refine xR_iln 12 1 dM_byteAt_12 rfl rfl ?_
    refine xR_iald 13 88 (by decide) rfl dM_byteAt_13 ?_
    refine xR_goto 14 18 dM_byteAt_14 (by decide) ?_
    exact xR_iret 18 rfl rfl dM_byteAt_18
theorem dM_blanks_0 : decode (xb yyM_blanks) 0 = .ok (.aload_n 0, 1) := by decide +kernel
theorem dM_blanks_1 : decode (xb yyM_blanks) 1 = .ok (.aload_n 0, 1) := by decide +kernel
theorem dM_blanks_2 : decode (xb yyM_blanks) 2 = .ok (.getfield 90, 3) := by decide +kernel
theorem dM_blanks_5 : decode (xb yyM_blanks) 5 = .ok (.invokevirtual 93, 3) := by decide +kernel
theorem dM_blanks_8 : decode (xb yyM_blanks) 8 = .ok (.bipush 32, 2) := by decide +kernel
theorem dM_blanks_10 : decode (xb yyM_blanks) 10 = .ok (.if_icmp .ne 16, 3) := by decide +kernel
theorem dM_blanks_13 : decode (xb yyM_blanks) 13 = .ok (.aload_n 0, 1) := by decide +kernel
theorem dM_blanks_14 : decode (xb yyM_blanks) 14 = .ok (.dup, 1) := by decide +kernel
theorem dM_blanks_15 : decode (xb yyM_blanks) 15 = .ok (.getfield 90, 3) := by decide +kernel
theorem dM_blanks_18 : decode (xb yyM_blanks) 18 = .ok (.iconst 1, 1) := by decide +kernel
theorem dM_blanks_19 : decode (xb yyM_blanks) 19 = .ok (.iadd, 1) := by decide +kernel
theorem dM_blanks_20 : decode (xb yyM_blanks) 20 = .ok (.putfield 90, 3) := by decide +kernel
theorem dM_blanks_23 : decode (xb yyM_blanks) 23 = .ok (.goto (-23), 3) := by decide +kernel
theorem dM_blanks_26 : decode (xb yyM_blanks) 26 = .ok (.aload_n 0, 1) := by decide +kernel
theorem dM_blanks_27 : decode (xb yyM_blanks) 27 = .ok (.aload_n 0, 1) := by decide +kernel
theorem dM_blanks_28 : decode (xb yyM_blanks) 28 = .ok (.getfield 90, 3) := by decide +kernel
theorem dM_blanks_31 : decode (xb yyM_blanks) 31 = .ok (.putfield 96, 3) := by decide +kernel
theorem dM_blanks_34 : decode (xb yyM_blanks) 34 = .ok (.return_, 1) := by decide +kernel
def fM_blanks_l0  : Nat → xM → Option (xM)
  | 0, _ => none
  | n + 1, m => (fM_byteAt m (m.1 6 1)).bind fun r5 => (if r5 = (32 : Int32) then fM_blanks_l0 n (xset m 6 1 ((m.1 6 1) + (1 : Int32))) else some (xset m 6 2 (m.1 6 1)))
def fM_blanks  (m : xM) : Option (xM) := fM_blanks_l0 xfu m
set_option maxRecDepth 100000 in
set_option maxHeartbeats 4000000 in
theorem kM_blanks_l0 (G : xG)   (z : xM)    : ∀ (n : Nat) (m : xM), xR G yyM_blanks (emvm z) 0 [(0, .ref (xa G 85))] [] (z, m) (fM_blanks_l0  n m) := by
  intro n
  induction n with
  | zero =>
    intro m
    rw [fM_blanks_l0]
    exact xR_none
  | succ n ih =>
    intro m
    rw [fM_blanks_l0]
    refine xR_aln 0 0 dM_blanks_0 rfl rfl ?_
    refine xR_aln 1 0 dM_blanks_1 rfl rfl ?_
    refine xR_getf 2 xcf7 7 85 (by decide) (by decide) rfl (v := .int (m.1 6 1)) rfl fl_RX9_90 dM_blanks_2 ?_
    refine xR_callVi 5 cv_M_byteAt ml_RX9_93 ⟨Nat.le_of_ble_eq_true rfl, Nat.le_of_ble_eq_true rfl⟩ xcf7 rfl 85 (by decide) rfl [.int (m.1 6 1)] rfl rfl (Nat.le_of_ble_eq_true rfl) dM_blanks_5 (kM_byteAt G z m (m.1 6 1)) (fun r5 => ?_)
    refine xR_bp 8 (32 : Int32) dM_blanks_8 (by decide) ?_
    refine xR_icne 10 26 dM_blanks_10 (by decide) ?_ ?_
    · refine xR_aln 26 0 dM_blanks_26 rfl rfl ?_
      refine xR_aln 27 0 dM_blanks_27 rfl rfl ?_
      refine xR_getf 28 xcf7 7 85 (by decide) (by decide) rfl (v := .int (m.1 6 1)) rfl fl_RX9_90 dM_blanks_28 ?_
      refine xR_putf 31 xcf7 8 85 (by decide) (by decide) rfl rfl rfl rfl (Nat.le_of_ble_eq_true rfl) (z, (xset m 6 2 (m.1 6 1))) (xW_mint (i := 2) rfl) fl_RX9_96 dM_blanks_31 ?_
      exact xR_vret 34 rfl rfl dM_blanks_34
    · refine xR_aln 13 0 dM_blanks_13 rfl rfl ?_
      refine xR_dup 14 dM_blanks_14 rfl ?_
      refine xR_getf 15 xcf7 7 85 (by decide) (by decide) rfl (v := .int (m.1 6 1)) rfl fl_RX9_90 dM_blanks_15 ?_
      refine xR_ic 18 (1 : Int32) dM_blanks_18 (by decide) ?_
      refine xR_iadd 19 dM_blanks_19 ?_
      refine xR_putf 20 xcf7 7 85 (by decide) (by decide) rfl rfl rfl rfl (Nat.le_of_ble_eq_true rfl) (z, (xset m 6 1 ((m.1 6 1) + (1 : Int32)))) (xW_mint (i := 1) rfl) fl_RX9_90 dM_blanks_20 ?_
      refine xR_goto 23 0 dM_blanks_23 (by decide) ?_
      exact ih (xset m 6 1 ((m.1 6 1) + (1 : Int32)))
set_option maxRecDepth 100000 in
set_option maxHeartbeats 4000000 in
theorem kM_blanks (G : xG)   (z : xM) (m : xM) : ∀ a, fM_blanks  m = some a → xCt G yyM_blanks [.ref (xa G 85)] (z, m) (none) (z, a) := by
  refine xR_ct (em := (emvm z)) rfl (Nat.le_of_ble_eq_true rfl) ?_
  show xR G yyM_blanks _ 0 [(0, .ref (xa G 85))] [] _ _
  unfold fM_blanks
  exact kM_blanks_l0 G z xfu m
theorem dM_takesWord_0 : decode (xb yyM_takesWord) 0 = .ok (.aload_n 0, 1) := by decide +kernel
theorem dM_takesWord_1 : decode (xb yyM_takesWord) 1 = .ok (.invokevirtual 99, 3) := by decide +kernel
theorem dM_takesWord_4 : decode (xb yyM_takesWord) 4 = .ok (.aload_n 0, 1) := by decide +kernel
theorem dM_takesWord_5 : decode (xb yyM_takesWord) 5 = .ok (.aload_n 0, 1) := by decide +kernel
theorem dM_takesWord_6 : decode (xb yyM_takesWord) 6 = .ok (.getfield 90, 3) := by decide +kernel
theorem dM_takesWord_9 : decode (xb yyM_takesWord) 9 = .ok (.invokevirtual 93, 3) := by decide +kernel
theorem dM_takesWord_12 : decode (xb yyM_takesWord) 12 = .ok (.i2l, 1) := by decide +kernel
theorem dM_takesWord_13 : decode (xb yyM_takesWord) 13 = .ok (.ldc2_w 102, 3) := by decide +kernel
theorem dM_takesWord_16 : decode (xb yyM_takesWord) 16 = .ok (.ldc2_w 104, 3) := by decide +kernel
theorem dM_takesWord_19 : decode (xb yyM_takesWord) 19 = .ok (.invokestatic 40, 3) := by decide +kernel
theorem dM_takesWord_22 : decode (xb yyM_takesWord) 22 = .ok (.ifCond .eq 16, 3) := by decide +kernel
theorem dM_takesWord_25 : decode (xb yyM_takesWord) 25 = .ok (.aload_n 0, 1) := by decide +kernel
theorem dM_takesWord_26 : decode (xb yyM_takesWord) 26 = .ok (.dup, 1) := by decide +kernel
theorem dM_takesWord_27 : decode (xb yyM_takesWord) 27 = .ok (.getfield 90, 3) := by decide +kernel
theorem dM_takesWord_30 : decode (xb yyM_takesWord) 30 = .ok (.iconst 1, 1) := by decide +kernel
theorem dM_takesWord_31 : decode (xb yyM_takesWord) 31 = .ok (.iadd, 1) := by decide +kernel
theorem dM_takesWord_32 : decode (xb yyM_takesWord) 32 = .ok (.putfield 90, 3) := by decide +kernel
theorem dM_takesWord_35 : decode (xb yyM_takesWord) 35 = .ok (.goto (-31), 3) := by decide +kernel
theorem dM_takesWord_38 : decode (xb yyM_takesWord) 38 = .ok (.return_, 1) := by decide +kernel
def fM_takesWord_l4  : Nat → xM → Option (xM)
  | 0, _ => none
  | n + 1, m => (fM_byteAt m (m.1 6 1)).bind fun r9 => (fM_in ((r9).toInt64) (97 : Int64) (122 : Int64)).bind fun r19 => (if r19 = 0 then some m else fM_takesWord_l4 n (xset m 6 1 ((m.1 6 1) + (1 : Int32))))
def fM_takesWord  (m : xM) : Option (xM) := (fM_blanks m).bind fun r1 => fM_takesWord_l4 xfu r1
set_option maxRecDepth 100000 in
set_option maxHeartbeats 4000000 in
theorem kM_takesWord_l4 (G : xG)   (z : xM)    : ∀ (n : Nat) (m : xM), xR G yyM_takesWord (emvm z) 4 [(0, .ref (xa G 85))] [] (z, m) (fM_takesWord_l4  n m) := by
  intro n
  induction n with
  | zero =>
    intro m
    rw [fM_takesWord_l4]
    exact xR_none
  | succ n ih =>
    intro m
    rw [fM_takesWord_l4]
    refine xR_aln 4 0 dM_takesWord_4 rfl rfl ?_
    refine xR_aln 5 0 dM_takesWord_5 rfl rfl ?_
    refine xR_getf 6 xcf7 7 85 (by decide) (by decide) rfl (v := .int (m.1 6 1)) rfl fl_RX9_90 dM_takesWord_6 ?_
    refine xR_callVi 9 cv_M_byteAt ml_RX9_93 ⟨Nat.le_of_ble_eq_true rfl, Nat.le_of_ble_eq_true rfl⟩ xcf7 rfl 85 (by decide) rfl [.int (m.1 6 1)] rfl rfl (Nat.le_of_ble_eq_true rfl) dM_takesWord_9 (kM_byteAt G z m (m.1 6 1)) (fun r9 => ?_)
    refine xR_i2l 12 dM_takesWord_12 ?_
    refine xR_ldc2 13 cl_RX9_102 dM_takesWord_13 ?_
    refine xR_ldc2 16 cl_RX9_104 dM_takesWord_16 ?_
    refine xR_callSi 19 cs_M_in ml_RX9_40 ⟨Nat.le_of_ble_eq_true rfl, Nat.le_of_ble_eq_true rfl⟩ [.long ((r9).toInt64), .long (97 : Int64), .long (122 : Int64)] rfl rfl (Nat.le_of_ble_eq_true rfl) dM_takesWord_19 (kM_in G (z, m) ((r9).toInt64) (97 : Int64) (122 : Int64)) (fun r19 => ?_)
    refine xR_ifeq 22 38 dM_takesWord_22 (by decide) ?_ ?_
    · exact xR_vret 38 rfl rfl dM_takesWord_38
    · refine xR_aln 25 0 dM_takesWord_25 rfl rfl ?_
      refine xR_dup 26 dM_takesWord_26 rfl ?_
      refine xR_getf 27 xcf7 7 85 (by decide) (by decide) rfl (v := .int (m.1 6 1)) rfl fl_RX9_90 dM_takesWord_27 ?_
      refine xR_ic 30 (1 : Int32) dM_takesWord_30 (by decide) ?_
      refine xR_iadd 31 dM_takesWord_31 ?_
      refine xR_putf 32 xcf7 7 85 (by decide) (by decide) rfl rfl rfl rfl (Nat.le_of_ble_eq_true rfl) (z, (xset m 6 1 ((m.1 6 1) + (1 : Int32)))) (xW_mint (i := 1) rfl) fl_RX9_90 dM_takesWord_32 ?_
      refine xR_goto 35 4 dM_takesWord_35 (by decide) ?_
      exact ih (xset m 6 1 ((m.1 6 1) + (1 : Int32)))
set_option maxRecDepth 100000 in
set_option maxHeartbeats 4000000 in
theorem kM_takesWord (G : xG)   (z : xM) (m : xM) : ∀ a, fM_takesWord  m = some a → xCt G yyM_takesWord [.ref (xa G 85)] (z, m) (none) (z, a) := by
  refine xR_ct (em := (emvm z)) rfl (Nat.le_of_ble_eq_true rfl) ?_
  show xR G yyM_takesWord _ 0 [(0, .ref (xa G 85))] [] _ _
  unfold fM_takesWord
  refine xR_aln 0 0 dM_takesWord_0 rfl rfl ?_
  refine xR_callVvm 1 cv_M_blanks ml_RX9_99 ⟨Nat.le_of_ble_eq_true rfl, Nat.le_of_ble_eq_true rfl⟩ xcf7 rfl 85 (by decide) rfl [] rfl rfl (Nat.le_of_ble_eq_true rfl) dM_takesWord_1 (kM_blanks G z m) (fun r1 => ?_)
  exact kM_takesWord_l4 G z xfu r1
theorem dM_isLetter_0 : decode (xb yyM_isLetter) 0 = .ok (.iload_n 2, 1) := by decide +kernel
theorem dM_isLetter_1 : decode (xb yyM_isLetter) 1 = .ok (.ifCond .ne 16, 3) := by decide +kernel
theorem dM_isLetter_4 : decode (xb yyM_isLetter) 4 = .ok (.iload_n 3, 1) := by decide +kernel
theorem dM_isLetter_5 : decode (xb yyM_isLetter) 5 = .ok (.iload_n 1, 1) := by decide +kernel
theorem dM_isLetter_6 : decode (xb yyM_isLetter) 6 = .ok (.if_icmp .gt 7, 3) := by decide +kernel
theorem dM_isLetter_9 : decode (xb yyM_isLetter) 9 = .ok (.iconst 1, 1) := by decide +kernel
theorem dM_isLetter_10 : decode (xb yyM_isLetter) 10 = .ok (.goto 32, 3) := by decide +kernel
theorem dM_isLetter_13 : decode (xb yyM_isLetter) 13 = .ok (.iconst 0, 1) := by decide +kernel
theorem dM_isLetter_14 : decode (xb yyM_isLetter) 14 = .ok (.goto 28, 3) := by decide +kernel
theorem dM_isLetter_17 : decode (xb yyM_isLetter) 17 = .ok (.iload_n 3, 1) := by decide +kernel
theorem dM_isLetter_18 : decode (xb yyM_isLetter) 18 = .ok (.iload_n 1, 1) := by decide +kernel
theorem dM_isLetter_19 : decode (xb yyM_isLetter) 19 = .ok (.if_icmp .le 22, 3) := by decide +kernel
theorem dM_isLetter_22 : decode (xb yyM_isLetter) 22 = .ok (.aload_n 0, 1) := by decide +kernel
theorem dM_isLetter_23 : decode (xb yyM_isLetter) 23 = .ok (.getfield 17, 3) := by decide +kernel
theorem dM_isLetter_26 : decode (xb yyM_isLetter) 26 = .ok (.aload_n 0, 1) := by decide +kernel
theorem dM_isLetter_27 : decode (xb yyM_isLetter) 27 = .ok (.getfield 96, 3) := by decide +kernel
theorem dM_isLetter_30 : decode (xb yyM_isLetter) 30 = .ok (.iload_n 1, 1) := by decide +kernel
theorem dM_isLetter_31 : decode (xb yyM_isLetter) 31 = .ok (.iadd, 1) := by decide +kernel
theorem dM_isLetter_32 : decode (xb yyM_isLetter) 32 = .ok (.iaload, 1) := by decide +kernel
theorem dM_isLetter_33 : decode (xb yyM_isLetter) 33 = .ok (.iload_n 2, 1) := by decide +kernel
theorem dM_isLetter_34 : decode (xb yyM_isLetter) 34 = .ok (.if_icmp .ne 7, 3) := by decide +kernel
theorem dM_isLetter_37 : decode (xb yyM_isLetter) 37 = .ok (.iconst 1, 1) := by decide +kernel
theorem dM_isLetter_38 : decode (xb yyM_isLetter) 38 = .ok (.goto 4, 3) := by decide +kernel
theorem dM_isLetter_41 : decode (xb yyM_isLetter) 41 = .ok (.iconst 0, 1) := by decide +kernel
theorem dM_isLetter_42 : decode (xb yyM_isLetter) 42 = .ok (.ireturn, 1) := by decide +kernel
def fM_isLetter  (m : xM) (v1 : Int32) (v2 : Int32) (v3 : Int32) : Option (Int32) := (if v2 = 0 then (if v1 < v3 then some (xnb (0 : Int32)) else some (xnb (1 : Int32))) else (if v3 ≤ v1 then some (xnb (0 : Int32)) else xck 150 ((m.1 6 2) + v1) ((if (m.1 2 ((m.1 6 2) + v1).toNatClampNeg) = v2 then some (xnb (1 : Int32)) else some (xnb (0 : Int32))))))
set_option maxRecDepth 100000 in
set_option maxHeartbeats 4000000 in
theorem kM_isLetter (G : xG)   (z : xM) (m : xM) (v1 : Int32) (v2 : Int32) (v3 : Int32) : ∀ a, fM_isLetter m v1 v2 v3 = some a → xCt G yyM_isLetter [.ref (xa G 85), .int v1, .int v2, .int v3] (z, m) (some (.int a)) (z, m) := by
  refine xR_ct (em := (emi (z, m))) rfl (Nat.le_of_ble_eq_true rfl) ?_
  show xR G yyM_isLetter _ 0 [(0, .ref (xa G 85)), (1, .int v1), (2, .int v2), (3, .int v3)] [] _ _
  unfold fM_isLetter
  refine xR_iln 0 2 dM_isLetter_0 rfl rfl ?_
  refine xR_ifne 1 17 dM_isLetter_1 (by decide) ?_ ?_
  · refine xR_iln 17 3 dM_isLetter_17 rfl rfl ?_
    refine xR_iln 18 1 dM_isLetter_18 rfl rfl ?_
    refine xR_icle 19 41 dM_isLetter_19 (by decide) ?_ ?_
    · refine xR_ic 41 (0 : Int32) dM_isLetter_41 (by decide) ?_
      exact xR_zret 42 rfl rfl dM_isLetter_42
    · refine xR_aln 22 0 dM_isLetter_22 rfl rfl ?_
      refine xR_getf 23 xcf7 2 85 (by decide) (by decide) rfl (v := .ref (xa G 88)) rfl fl_RX9_17 dM_isLetter_23 ?_
      refine xR_aln 26 0 dM_isLetter_26 rfl rfl ?_
      refine xR_getf 27 xcf7 8 85 (by decide) (by decide) rfl (v := .int (m.1 6 2)) rfl fl_RX9_96 dM_isLetter_27 ?_
      refine xR_iln 30 1 dM_isLetter_30 rfl rfl ?_
      refine xR_iadd 31 dM_isLetter_31 ?_
      refine xR_iald 32 88 (by decide) rfl dM_isLetter_32 ?_
      refine xR_iln 33 2 dM_isLetter_33 rfl rfl ?_
      refine xR_icne 34 41 dM_isLetter_34 (by decide) ?_ ?_
      · refine xR_ic 41 (0 : Int32) dM_isLetter_41 (by decide) ?_
        exact xR_zret 42 rfl rfl dM_isLetter_42
      · refine xR_ic 37 (1 : Int32) dM_isLetter_37 (by decide) ?_
        refine xR_goto 38 42 dM_isLetter_38 (by decide) ?_
        exact xR_zret 42 rfl rfl dM_isLetter_42
  · refine xR_iln 4 3 dM_isLetter_4 rfl rfl ?_
    refine xR_iln 5 1 dM_isLetter_5 rfl rfl ?_
    refine xR_icgt 6 13 dM_isLetter_6 (by decide) ?_ ?_
    · refine xR_ic 13 (0 : Int32) dM_isLetter_13 (by decide) ?_
      refine xR_goto 14 42 dM_isLetter_14 (by decide) ?_
      exact xR_zret 42 rfl rfl dM_isLetter_42
    · refine xR_ic 9 (1 : Int32) dM_isLetter_9 (by decide) ?_
      refine xR_goto 10 42 dM_isLetter_10 (by decide) ?_
      exact xR_zret 42 rfl rfl dM_isLetter_42
theorem dM_isWord_0 : decode (xb yyM_isWord) 0 = .ok (.aload_n 0, 1) := by decide +kernel
theorem dM_isWord_1 : decode (xb yyM_isWord) 1 = .ok (.getfield 90, 3) := by decide +kernel
theorem dM_isWord_4 : decode (xb yyM_isWord) 4 = .ok (.aload_n 0, 1) := by decide +kernel
theorem dM_isWord_5 : decode (xb yyM_isWord) 5 = .ok (.getfield 96, 3) := by decide +kernel
theorem dM_isWord_8 : decode (xb yyM_isWord) 8 = .ok (.isub, 1) := by decide +kernel
theorem dM_isWord_9 : decode (xb yyM_isWord) 9 = .ok (.istore 8, 2) := by decide +kernel
theorem dM_isWord_11 : decode (xb yyM_isWord) 11 = .ok (.aload_n 0, 1) := by decide +kernel
theorem dM_isWord_12 : decode (xb yyM_isWord) 12 = .ok (.iconst 0, 1) := by decide +kernel
theorem dM_isWord_13 : decode (xb yyM_isWord) 13 = .ok (.iload_n 1, 1) := by decide +kernel
theorem dM_isWord_14 : decode (xb yyM_isWord) 14 = .ok (.iload 8, 2) := by decide +kernel
theorem dM_isWord_16 : decode (xb yyM_isWord) 16 = .ok (.invokevirtual 106, 3) := by decide +kernel
theorem dM_isWord_19 : decode (xb yyM_isWord) 19 = .ok (.ifCond .eq 85, 3) := by decide +kernel
theorem dM_isWord_22 : decode (xb yyM_isWord) 22 = .ok (.aload_n 0, 1) := by decide +kernel
theorem dM_isWord_23 : decode (xb yyM_isWord) 23 = .ok (.iconst 1, 1) := by decide +kernel
theorem dM_isWord_24 : decode (xb yyM_isWord) 24 = .ok (.iload_n 2, 1) := by decide +kernel
theorem dM_isWord_25 : decode (xb yyM_isWord) 25 = .ok (.iload 8, 2) := by decide +kernel
theorem dM_isWord_27 : decode (xb yyM_isWord) 27 = .ok (.invokevirtual 106, 3) := by decide +kernel
theorem dM_isWord_30 : decode (xb yyM_isWord) 30 = .ok (.ifCond .eq 74, 3) := by decide +kernel
theorem dM_isWord_33 : decode (xb yyM_isWord) 33 = .ok (.aload_n 0, 1) := by decide +kernel
theorem dM_isWord_34 : decode (xb yyM_isWord) 34 = .ok (.iconst 2, 1) := by decide +kernel
theorem dM_isWord_35 : decode (xb yyM_isWord) 35 = .ok (.iload_n 3, 1) := by decide +kernel
theorem dM_isWord_36 : decode (xb yyM_isWord) 36 = .ok (.iload 8, 2) := by decide +kernel
theorem dM_isWord_38 : decode (xb yyM_isWord) 38 = .ok (.invokevirtual 106, 3) := by decide +kernel
theorem dM_isWord_41 : decode (xb yyM_isWord) 41 = .ok (.ifCond .eq 63, 3) := by decide +kernel
theorem dM_isWord_44 : decode (xb yyM_isWord) 44 = .ok (.aload_n 0, 1) := by decide +kernel
theorem dM_isWord_45 : decode (xb yyM_isWord) 45 = .ok (.iconst 3, 1) := by decide +kernel
theorem dM_isWord_46 : decode (xb yyM_isWord) 46 = .ok (.iload 4, 2) := by decide +kernel
theorem dM_isWord_48 : decode (xb yyM_isWord) 48 = .ok (.iload 8, 2) := by decide +kernel
theorem dM_isWord_50 : decode (xb yyM_isWord) 50 = .ok (.invokevirtual 106, 3) := by decide +kernel
theorem dM_isWord_53 : decode (xb yyM_isWord) 53 = .ok (.ifCond .eq 51, 3) := by decide +kernel
theorem dM_isWord_56 : decode (xb yyM_isWord) 56 = .ok (.aload_n 0, 1) := by decide +kernel
theorem dM_isWord_57 : decode (xb yyM_isWord) 57 = .ok (.iconst 4, 1) := by decide +kernel
theorem dM_isWord_58 : decode (xb yyM_isWord) 58 = .ok (.iload 5, 2) := by decide +kernel
theorem dM_isWord_60 : decode (xb yyM_isWord) 60 = .ok (.iload 8, 2) := by decide +kernel
theorem dM_isWord_62 : decode (xb yyM_isWord) 62 = .ok (.invokevirtual 106, 3) := by decide +kernel
theorem dM_isWord_65 : decode (xb yyM_isWord) 65 = .ok (.ifCond .eq 39, 3) := by decide +kernel
theorem dM_isWord_68 : decode (xb yyM_isWord) 68 = .ok (.aload_n 0, 1) := by decide +kernel
theorem dM_isWord_69 : decode (xb yyM_isWord) 69 = .ok (.iconst 5, 1) := by decide +kernel
theorem dM_isWord_70 : decode (xb yyM_isWord) 70 = .ok (.iload 6, 2) := by decide +kernel
theorem dM_isWord_72 : decode (xb yyM_isWord) 72 = .ok (.iload 8, 2) := by decide +kernel
theorem dM_isWord_74 : decode (xb yyM_isWord) 74 = .ok (.invokevirtual 106, 3) := by decide +kernel
theorem dM_isWord_77 : decode (xb yyM_isWord) 77 = .ok (.ifCond .eq 27, 3) := by decide +kernel
theorem dM_isWord_80 : decode (xb yyM_isWord) 80 = .ok (.aload_n 0, 1) := by decide +kernel
theorem dM_isWord_81 : decode (xb yyM_isWord) 81 = .ok (.bipush 6, 2) := by decide +kernel
theorem dM_isWord_83 : decode (xb yyM_isWord) 83 = .ok (.iload 7, 2) := by decide +kernel
theorem dM_isWord_85 : decode (xb yyM_isWord) 85 = .ok (.iload 8, 2) := by decide +kernel
theorem dM_isWord_87 : decode (xb yyM_isWord) 87 = .ok (.invokevirtual 106, 3) := by decide +kernel
theorem dM_isWord_90 : decode (xb yyM_isWord) 90 = .ok (.ifCond .eq 14, 3) := by decide +kernel
theorem dM_isWord_93 : decode (xb yyM_isWord) 93 = .ok (.iload 8, 2) := by decide +kernel
theorem dM_isWord_95 : decode (xb yyM_isWord) 95 = .ok (.bipush 8, 2) := by decide +kernel
theorem dM_isWord_97 : decode (xb yyM_isWord) 97 = .ok (.if_icmp .ge 7, 3) := by decide +kernel
theorem dM_isWord_100 : decode (xb yyM_isWord) 100 = .ok (.iconst 1, 1) := by decide +kernel
theorem dM_isWord_101 : decode (xb yyM_isWord) 101 = .ok (.goto 4, 3) := by decide +kernel
theorem dM_isWord_104 : decode (xb yyM_isWord) 104 = .ok (.iconst 0, 1) := by decide +kernel
theorem dM_isWord_105 : decode (xb yyM_isWord) 105 = .ok (.ireturn, 1) := by decide +kernel
def fM_isWord  (m : xM) (v1 : Int32) (v2 : Int32) (v3 : Int32) (v4 : Int32) (v5 : Int32) (v6 : Int32) (v7 : Int32) : Option (Int32) := (fM_isLetter m (0 : Int32) v1 ((m.1 6 1) - (m.1 6 2))).bind fun r16 => (if r16 = 0 then some (xnb (0 : Int32)) else (fM_isLetter m (1 : Int32) v2 ((m.1 6 1) - (m.1 6 2))).bind fun r27 => (if r27 = 0 then some (xnb (0 : Int32)) else (fM_isLetter m (2 : Int32) v3 ((m.1 6 1) - (m.1 6 2))).bind fun r38 => (if r38 = 0 then some (xnb (0 : Int32)) else (fM_isLetter m (3 : Int32) v4 ((m.1 6 1) - (m.1 6 2))).bind fun r50 => (if r50 = 0 then some (xnb (0 : Int32)) else (fM_isLetter m (4 : Int32) v5 ((m.1 6 1) - (m.1 6 2))).bind fun r62 => (if r62 = 0 then some (xnb (0 : Int32)) else (fM_isLetter m (5 : Int32) v6 ((m.1 6 1) - (m.1 6 2))).bind fun r74 => (if r74 = 0 then some (xnb (0 : Int32)) else (fM_isLetter m (6 : Int32) v7 ((m.1 6 1) - (m.1 6 2))).bind fun r87 => (if r87 = 0 then some (xnb (0 : Int32)) else (if (8 : Int32) ≤ ((m.1 6 1) - (m.1 6 2)) then some (xnb (0 : Int32)) else some (xnb (1 : Int32))))))))))
set_option maxRecDepth 100000 in
set_option maxHeartbeats 4000000 in
theorem kM_isWord (G : xG)   (z : xM) (m : xM) (v1 : Int32) (v2 : Int32) (v3 : Int32) (v4 : Int32) (v5 : Int32) (v6 : Int32) (v7 : Int32) : ∀ a, fM_isWord m v1 v2 v3 v4 v5 v6 v7 = some a → xCt G yyM_isWord [.ref (xa G 85), .int v1, .int v2, .int v3, .int v4, .int v5, .int v6, .int v7] (z, m) (some (.int a)) (z, m) := by
  refine xR_ct (em := (emi (z, m))) rfl (Nat.le_of_ble_eq_true rfl) ?_
  show xR G yyM_isWord _ 0 [(0, .ref (xa G 85)), (1, .int v1), (2, .int v2), (3, .int v3), (4, .int v4), (5, .int v5), (6, .int v6), (7, .int v7)] [] _ _
  unfold fM_isWord
  refine xR_aln 0 0 dM_isWord_0 rfl rfl ?_
  refine xR_getf 1 xcf7 7 85 (by decide) (by decide) rfl (v := .int (m.1 6 1)) rfl fl_RX9_90 dM_isWord_1 ?_
  refine xR_aln 4 0 dM_isWord_4 rfl rfl ?_
  refine xR_getf 5 xcf7 8 85 (by decide) (by decide) rfl (v := .int (m.1 6 2)) rfl fl_RX9_96 dM_isWord_5 ?_
  refine xR_isub 8 dM_isWord_8 ?_
  refine xR_is 9 ([(8, .int ((m.1 6 1) - (m.1 6 2))), (0, .ref (xa G 85)), (1, .int v1), (2, .int v2), (3, .int v3), (4, .int v4), (5, .int v5), (6, .int v6), (7, .int v7)]) dM_isWord_9 (by decide) rfl ?_
  refine xR_aln 11 1 dM_isWord_11 rfl rfl ?_
  refine xR_ic 12 (0 : Int32) dM_isWord_12 (by decide) ?_
  refine xR_iln 13 2 dM_isWord_13 rfl rfl ?_
  refine xR_il 14 0 dM_isWord_14 rfl ?_
  refine xR_callVi 16 cv_M_isLetter ml_RX9_106 ⟨Nat.le_of_ble_eq_true rfl, Nat.le_of_ble_eq_true rfl⟩ xcf7 rfl 85 (by decide) rfl [.int (0 : Int32), .int v1, .int ((m.1 6 1) - (m.1 6 2))] rfl rfl (Nat.le_of_ble_eq_true rfl) dM_isWord_16 (kM_isLetter G z m (0 : Int32) v1 ((m.1 6 1) - (m.1 6 2))) (fun r16 => ?_)
  refine xR_ifeq 19 104 dM_isWord_19 (by decide) ?_ ?_
  · refine xR_ic 104 (0 : Int32) dM_isWord_104 (by decide) ?_
    exact xR_zret 105 rfl rfl dM_isWord_105
  · refine xR_aln 22 1 dM_isWord_22 rfl rfl ?_
    refine xR_ic 23 (1 : Int32) dM_isWord_23 (by decide) ?_
    refine xR_iln 24 3 dM_isWord_24 rfl rfl ?_
    refine xR_il 25 0 dM_isWord_25 rfl ?_
    refine xR_callVi 27 cv_M_isLetter ml_RX9_106 ⟨Nat.le_of_ble_eq_true rfl, Nat.le_of_ble_eq_true rfl⟩ xcf7 rfl 85 (by decide) rfl [.int (1 : Int32), .int v2, .int ((m.1 6 1) - (m.1 6 2))] rfl rfl (Nat.le_of_ble_eq_true rfl) dM_isWord_27 (kM_isLetter G z m (1 : Int32) v2 ((m.1 6 1) - (m.1 6 2))) (fun r27 => ?_)
    refine xR_ifeq 30 104 dM_isWord_30 (by decide) ?_ ?_
    · refine xR_ic 104 (0 : Int32) dM_isWord_104 (by decide) ?_
      exact xR_zret 105 rfl rfl dM_isWord_105
    · refine xR_aln 33 1 dM_isWord_33 rfl rfl ?_
      refine xR_ic 34 (2 : Int32) dM_isWord_34 (by decide) ?_
      refine xR_iln 35 4 dM_isWord_35 rfl rfl ?_
      refine xR_il 36 0 dM_isWord_36 rfl ?_
      refine xR_callVi 38 cv_M_isLetter ml_RX9_106 ⟨Nat.le_of_ble_eq_true rfl, Nat.le_of_ble_eq_true rfl⟩ xcf7 rfl 85 (by decide) rfl [.int (2 : Int32), .int v3, .int ((m.1 6 1) - (m.1 6 2))] rfl rfl (Nat.le_of_ble_eq_true rfl) dM_isWord_38 (kM_isLetter G z m (2 : Int32) v3 ((m.1 6 1) - (m.1 6 2))) (fun r38 => ?_)
      refine xR_ifeq 41 104 dM_isWord_41 (by decide) ?_ ?_
      · refine xR_ic 104 (0 : Int32) dM_isWord_104 (by decide) ?_
        exact xR_zret 105 rfl rfl dM_isWord_105
      · refine xR_aln 44 1 dM_isWord_44 rfl rfl ?_
        refine xR_ic 45 (3 : Int32) dM_isWord_45 (by decide) ?_
        refine xR_il 46 5 dM_isWord_46 rfl ?_
        refine xR_il 48 0 dM_isWord_48 rfl ?_
        refine xR_callVi 50 cv_M_isLetter ml_RX9_106 ⟨Nat.le_of_ble_eq_true rfl, Nat.le_of_ble_eq_true rfl⟩ xcf7 rfl 85 (by decide) rfl [.int (3 : Int32), .int v4, .int ((m.1 6 1) - (m.1 6 2))] rfl rfl (Nat.le_of_ble_eq_true rfl) dM_isWord_50 (kM_isLetter G z m (3 : Int32) v4 ((m.1 6 1) - (m.1 6 2))) (fun r50 => ?_)
        refine xR_ifeq 53 104 dM_isWord_53 (by decide) ?_ ?_
        · refine xR_ic 104 (0 : Int32) dM_isWord_104 (by decide) ?_
          exact xR_zret 105 rfl rfl dM_isWord_105
        · refine xR_aln 56 1 dM_isWord_56 rfl rfl ?_
          refine xR_ic 57 (4 : Int32) dM_isWord_57 (by decide) ?_
          refine xR_il 58 6 dM_isWord_58 rfl ?_
          refine xR_il 60 0 dM_isWord_60 rfl ?_
          refine xR_callVi 62 cv_M_isLetter ml_RX9_106 ⟨Nat.le_of_ble_eq_true rfl, Nat.le_of_ble_eq_true rfl⟩ xcf7 rfl 85 (by decide) rfl [.int (4 : Int32), .int v5, .int ((m.1 6 1) - (m.1 6 2))] rfl rfl (Nat.le_of_ble_eq_true rfl) dM_isWord_62 (kM_isLetter G z m (4 : Int32) v5 ((m.1 6 1) - (m.1 6 2))) (fun r62 => ?_)
          refine xR_ifeq 65 104 dM_isWord_65 (by decide) ?_ ?_
          · refine xR_ic 104 (0 : Int32) dM_isWord_104 (by decide) ?_
            exact xR_zret 105 rfl rfl dM_isWord_105
          · refine xR_aln 68 1 dM_isWord_68 rfl rfl ?_
            refine xR_ic 69 (5 : Int32) dM_isWord_69 (by decide) ?_
            refine xR_il 70 7 dM_isWord_70 rfl ?_
            refine xR_il 72 0 dM_isWord_72 rfl ?_
            refine xR_callVi 74 cv_M_isLetter ml_RX9_106 ⟨Nat.le_of_ble_eq_true rfl, Nat.le_of_ble_eq_true rfl⟩ xcf7 rfl 85 (by decide) rfl [.int (5 : Int32), .int v6, .int ((m.1 6 1) - (m.1 6 2))] rfl rfl (Nat.le_of_ble_eq_true rfl) dM_isWord_74 (kM_isLetter G z m (5 : Int32) v6 ((m.1 6 1) - (m.1 6 2))) (fun r74 => ?_)
            refine xR_ifeq 77 104 dM_isWord_77 (by decide) ?_ ?_
            · refine xR_ic 104 (0 : Int32) dM_isWord_104 (by decide) ?_
              exact xR_zret 105 rfl rfl dM_isWord_105
            · refine xR_aln 80 1 dM_isWord_80 rfl rfl ?_
              refine xR_bp 81 (6 : Int32) dM_isWord_81 (by decide) ?_
              refine xR_il 83 8 dM_isWord_83 rfl ?_
              refine xR_il 85 0 dM_isWord_85 rfl ?_
              refine xR_callVi 87 cv_M_isLetter ml_RX9_106 ⟨Nat.le_of_ble_eq_true rfl, Nat.le_of_ble_eq_true rfl⟩ xcf7 rfl 85 (by decide) rfl [.int (6 : Int32), .int v7, .int ((m.1 6 1) - (m.1 6 2))] rfl rfl (Nat.le_of_ble_eq_true rfl) dM_isWord_87 (kM_isLetter G z m (6 : Int32) v7 ((m.1 6 1) - (m.1 6 2))) (fun r87 => ?_)
              refine xR_ifeq 90 104 dM_isWord_90 (by decide) ?_ ?_
              · refine xR_ic 104 (0 : Int32) dM_isWord_104 (by decide) ?_
                exact xR_zret 105 rfl rfl dM_isWord_105
              · refine xR_il 93 0 dM_isWord_93 rfl ?_
                refine xR_bp 95 (8 : Int32) dM_isWord_95 (by decide) ?_
                refine xR_icge 97 104 dM_isWord_97 (by decide) ?_ ?_
                · refine xR_ic 104 (0 : Int32) dM_isWord_104 (by decide) ?_
                  exact xR_zret 105 rfl rfl dM_isWord_105
                · refine xR_ic 100 (1 : Int32) dM_isWord_100 (by decide) ?_
                  refine xR_goto 101 105 dM_isWord_101 (by decide) ?_
                  exact xR_zret 105 rfl rfl dM_isWord_105
theorem dM_wordOf_0 : decode (xb yyM_wordOf) 0 = .ok (.aload_n 0, 1) := by decide +kernel
theorem dM_wordOf_1 : decode (xb yyM_wordOf) 1 = .ok (.bipush 116, 2) := by decide +kernel
theorem dM_wordOf_3 : decode (xb yyM_wordOf) 3 = .ok (.bipush 111, 2) := by decide +kernel
theorem dM_wordOf_5 : decode (xb yyM_wordOf) 5 = .ok (.bipush 119, 2) := by decide +kernel
theorem dM_wordOf_7 : decode (xb yyM_wordOf) 7 = .ok (.bipush 110, 2) := by decide +kernel
theorem dM_wordOf_9 : decode (xb yyM_wordOf) 9 = .ok (.iconst 0, 1) := by decide +kernel
theorem dM_wordOf_10 : decode (xb yyM_wordOf) 10 = .ok (.iconst 0, 1) := by decide +kernel
theorem dM_wordOf_11 : decode (xb yyM_wordOf) 11 = .ok (.iconst 0, 1) := by decide +kernel
theorem dM_wordOf_12 : decode (xb yyM_wordOf) 12 = .ok (.invokevirtual 110, 3) := by decide +kernel
theorem dM_wordOf_15 : decode (xb yyM_wordOf) 15 = .ok (.ifCond .eq 7, 3) := by decide +kernel
theorem dM_wordOf_18 : decode (xb yyM_wordOf) 18 = .ok (.iconst 1, 1) := by decide +kernel
theorem dM_wordOf_19 : decode (xb yyM_wordOf) 19 = .ok (.goto 138, 3) := by decide +kernel
theorem dM_wordOf_22 : decode (xb yyM_wordOf) 22 = .ok (.aload_n 0, 1) := by decide +kernel
theorem dM_wordOf_23 : decode (xb yyM_wordOf) 23 = .ok (.bipush 119, 2) := by decide +kernel
theorem dM_wordOf_25 : decode (xb yyM_wordOf) 25 = .ok (.bipush 101, 2) := by decide +kernel
theorem dM_wordOf_27 : decode (xb yyM_wordOf) 27 = .ok (.bipush 116, 2) := by decide +kernel
theorem dM_wordOf_29 : decode (xb yyM_wordOf) 29 = .ok (.iconst 0, 1) := by decide +kernel
theorem dM_wordOf_30 : decode (xb yyM_wordOf) 30 = .ok (.iconst 0, 1) := by decide +kernel
theorem dM_wordOf_31 : decode (xb yyM_wordOf) 31 = .ok (.iconst 0, 1) := by decide +kernel
theorem dM_wordOf_32 : decode (xb yyM_wordOf) 32 = .ok (.iconst 0, 1) := by decide +kernel
theorem dM_wordOf_33 : decode (xb yyM_wordOf) 33 = .ok (.invokevirtual 110, 3) := by decide +kernel
theorem dM_wordOf_36 : decode (xb yyM_wordOf) 36 = .ok (.ifCond .eq 7, 3) := by decide +kernel
theorem dM_wordOf_39 : decode (xb yyM_wordOf) 39 = .ok (.iconst 2, 1) := by decide +kernel
theorem dM_wordOf_40 : decode (xb yyM_wordOf) 40 = .ok (.goto 117, 3) := by decide +kernel
theorem dM_wordOf_43 : decode (xb yyM_wordOf) 43 = .ok (.aload_n 0, 1) := by decide +kernel
theorem dM_wordOf_44 : decode (xb yyM_wordOf) 44 = .ok (.bipush 98, 2) := by decide +kernel
theorem dM_wordOf_46 : decode (xb yyM_wordOf) 46 = .ok (.bipush 111, 2) := by decide +kernel
theorem dM_wordOf_48 : decode (xb yyM_wordOf) 48 = .ok (.bipush 97, 2) := by decide +kernel
theorem dM_wordOf_50 : decode (xb yyM_wordOf) 50 = .ok (.bipush 114, 2) := by decide +kernel
theorem dM_wordOf_52 : decode (xb yyM_wordOf) 52 = .ok (.bipush 100, 2) := by decide +kernel
theorem dM_wordOf_54 : decode (xb yyM_wordOf) 54 = .ok (.iconst 0, 1) := by decide +kernel
theorem dM_wordOf_55 : decode (xb yyM_wordOf) 55 = .ok (.iconst 0, 1) := by decide +kernel
theorem dM_wordOf_56 : decode (xb yyM_wordOf) 56 = .ok (.invokevirtual 110, 3) := by decide +kernel
theorem dM_wordOf_59 : decode (xb yyM_wordOf) 59 = .ok (.ifCond .eq 7, 3) := by decide +kernel
theorem dM_wordOf_62 : decode (xb yyM_wordOf) 62 = .ok (.iconst 3, 1) := by decide +kernel
theorem dM_wordOf_63 : decode (xb yyM_wordOf) 63 = .ok (.goto 94, 3) := by decide +kernel
theorem dM_wordOf_66 : decode (xb yyM_wordOf) 66 = .ok (.aload_n 0, 1) := by decide +kernel
theorem dM_wordOf_67 : decode (xb yyM_wordOf) 67 = .ok (.bipush 109, 2) := by decide +kernel
theorem dM_wordOf_69 : decode (xb yyM_wordOf) 69 = .ok (.bipush 97, 2) := by decide +kernel
theorem dM_wordOf_71 : decode (xb yyM_wordOf) 71 = .ok (.bipush 107, 2) := by decide +kernel
theorem dM_wordOf_73 : decode (xb yyM_wordOf) 73 = .ok (.bipush 101, 2) := by decide +kernel
theorem dM_wordOf_75 : decode (xb yyM_wordOf) 75 = .ok (.iconst 0, 1) := by decide +kernel
theorem dM_wordOf_76 : decode (xb yyM_wordOf) 76 = .ok (.iconst 0, 1) := by decide +kernel
theorem dM_wordOf_77 : decode (xb yyM_wordOf) 77 = .ok (.iconst 0, 1) := by decide +kernel
theorem dM_wordOf_78 : decode (xb yyM_wordOf) 78 = .ok (.invokevirtual 110, 3) := by decide +kernel
theorem dM_wordOf_81 : decode (xb yyM_wordOf) 81 = .ok (.ifCond .eq 7, 3) := by decide +kernel
theorem dM_wordOf_84 : decode (xb yyM_wordOf) 84 = .ok (.iconst 4, 1) := by decide +kernel
theorem dM_wordOf_85 : decode (xb yyM_wordOf) 85 = .ok (.goto 72, 3) := by decide +kernel
theorem dM_wordOf_88 : decode (xb yyM_wordOf) 88 = .ok (.aload_n 0, 1) := by decide +kernel
theorem dM_wordOf_89 : decode (xb yyM_wordOf) 89 = .ok (.bipush 99, 2) := by decide +kernel
theorem dM_wordOf_91 : decode (xb yyM_wordOf) 91 = .ok (.bipush 117, 2) := by decide +kernel
theorem dM_wordOf_93 : decode (xb yyM_wordOf) 93 = .ok (.bipush 116, 2) := by decide +kernel
theorem dM_wordOf_95 : decode (xb yyM_wordOf) 95 = .ok (.iconst 0, 1) := by decide +kernel
theorem dM_wordOf_96 : decode (xb yyM_wordOf) 96 = .ok (.iconst 0, 1) := by decide +kernel
theorem dM_wordOf_97 : decode (xb yyM_wordOf) 97 = .ok (.iconst 0, 1) := by decide +kernel
theorem dM_wordOf_98 : decode (xb yyM_wordOf) 98 = .ok (.iconst 0, 1) := by decide +kernel
theorem dM_wordOf_99 : decode (xb yyM_wordOf) 99 = .ok (.invokevirtual 110, 3) := by decide +kernel
theorem dM_wordOf_102 : decode (xb yyM_wordOf) 102 = .ok (.ifCond .eq 7, 3) := by decide +kernel
theorem dM_wordOf_105 : decode (xb yyM_wordOf) 105 = .ok (.iconst 5, 1) := by decide +kernel
theorem dM_wordOf_106 : decode (xb yyM_wordOf) 106 = .ok (.goto 51, 3) := by decide +kernel
theorem dM_wordOf_109 : decode (xb yyM_wordOf) 109 = .ok (.aload_n 0, 1) := by decide +kernel
theorem dM_wordOf_110 : decode (xb yyM_wordOf) 110 = .ok (.bipush 119, 2) := by decide +kernel
theorem dM_wordOf_112 : decode (xb yyM_wordOf) 112 = .ok (.bipush 111, 2) := by decide +kernel
theorem dM_wordOf_114 : decode (xb yyM_wordOf) 114 = .ok (.bipush 114, 2) := by decide +kernel
theorem dM_wordOf_116 : decode (xb yyM_wordOf) 116 = .ok (.bipush 109, 2) := by decide +kernel
theorem dM_wordOf_118 : decode (xb yyM_wordOf) 118 = .ok (.iconst 0, 1) := by decide +kernel
theorem dM_wordOf_119 : decode (xb yyM_wordOf) 119 = .ok (.iconst 0, 1) := by decide +kernel
theorem dM_wordOf_120 : decode (xb yyM_wordOf) 120 = .ok (.iconst 0, 1) := by decide +kernel
theorem dM_wordOf_121 : decode (xb yyM_wordOf) 121 = .ok (.invokevirtual 110, 3) := by decide +kernel
theorem dM_wordOf_124 : decode (xb yyM_wordOf) 124 = .ok (.ifCond .eq 8, 3) := by decide +kernel
theorem dM_wordOf_127 : decode (xb yyM_wordOf) 127 = .ok (.bipush 6, 2) := by decide +kernel
theorem dM_wordOf_129 : decode (xb yyM_wordOf) 129 = .ok (.goto 28, 3) := by decide +kernel
theorem dM_wordOf_132 : decode (xb yyM_wordOf) 132 = .ok (.aload_n 0, 1) := by decide +kernel
theorem dM_wordOf_133 : decode (xb yyM_wordOf) 133 = .ok (.bipush 121, 2) := by decide +kernel
theorem dM_wordOf_135 : decode (xb yyM_wordOf) 135 = .ok (.bipush 101, 2) := by decide +kernel
theorem dM_wordOf_137 : decode (xb yyM_wordOf) 137 = .ok (.bipush 97, 2) := by decide +kernel
theorem dM_wordOf_139 : decode (xb yyM_wordOf) 139 = .ok (.bipush 114, 2) := by decide +kernel
theorem dM_wordOf_141 : decode (xb yyM_wordOf) 141 = .ok (.bipush 115, 2) := by decide +kernel
theorem dM_wordOf_143 : decode (xb yyM_wordOf) 143 = .ok (.iconst 0, 1) := by decide +kernel
theorem dM_wordOf_144 : decode (xb yyM_wordOf) 144 = .ok (.iconst 0, 1) := by decide +kernel
theorem dM_wordOf_145 : decode (xb yyM_wordOf) 145 = .ok (.invokevirtual 110, 3) := by decide +kernel
theorem dM_wordOf_148 : decode (xb yyM_wordOf) 148 = .ok (.ifCond .eq 8, 3) := by decide +kernel
theorem dM_wordOf_151 : decode (xb yyM_wordOf) 151 = .ok (.bipush 7, 2) := by decide +kernel
theorem dM_wordOf_153 : decode (xb yyM_wordOf) 153 = .ok (.goto 4, 3) := by decide +kernel
theorem dM_wordOf_156 : decode (xb yyM_wordOf) 156 = .ok (.iconst 0, 1) := by decide +kernel
theorem dM_wordOf_157 : decode (xb yyM_wordOf) 157 = .ok (.ireturn, 1) := by decide +kernel
def fM_wordOf  (m : xM) : Option (Int32) := (fM_isWord m (116 : Int32) (111 : Int32) (119 : Int32) (110 : Int32) (0 : Int32) (0 : Int32) (0 : Int32)).bind fun r12 => (if r12 = 0 then (fM_isWord m (119 : Int32) (101 : Int32) (116 : Int32) (0 : Int32) (0 : Int32) (0 : Int32) (0 : Int32)).bind fun r33 => (if r33 = 0 then (fM_isWord m (98 : Int32) (111 : Int32) (97 : Int32) (114 : Int32) (100 : Int32) (0 : Int32) (0 : Int32)).bind fun r56 => (if r56 = 0 then (fM_isWord m (109 : Int32) (97 : Int32) (107 : Int32) (101 : Int32) (0 : Int32) (0 : Int32) (0 : Int32)).bind fun r78 => (if r78 = 0 then (fM_isWord m (99 : Int32) (117 : Int32) (116 : Int32) (0 : Int32) (0 : Int32) (0 : Int32) (0 : Int32)).bind fun r99 => (if r99 = 0 then (fM_isWord m (119 : Int32) (111 : Int32) (114 : Int32) (109 : Int32) (0 : Int32) (0 : Int32) (0 : Int32)).bind fun r121 => (if r121 = 0 then (fM_isWord m (121 : Int32) (101 : Int32) (97 : Int32) (114 : Int32) (115 : Int32) (0 : Int32) (0 : Int32)).bind fun r145 => (if r145 = 0 then some (0 : Int32) else some (7 : Int32)) else some (6 : Int32)) else some (5 : Int32)) else some (4 : Int32)) else some (3 : Int32)) else some (2 : Int32)) else some (1 : Int32))
set_option maxRecDepth 100000 in
set_option maxHeartbeats 4000000 in
theorem kM_wordOf (G : xG)   (z : xM) (m : xM) : ∀ a, fM_wordOf m  = some a → xCt G yyM_wordOf [.ref (xa G 85)] (z, m) (some (.int a)) (z, m) := by
  refine xR_ct (em := (emi (z, m))) rfl (Nat.le_of_ble_eq_true rfl) ?_
  show xR G yyM_wordOf _ 0 [(0, .ref (xa G 85))] [] _ _
  unfold fM_wordOf
  refine xR_aln 0 0 dM_wordOf_0 rfl rfl ?_
  refine xR_bp 1 (116 : Int32) dM_wordOf_1 (by decide) ?_
  refine xR_bp 3 (111 : Int32) dM_wordOf_3 (by decide) ?_
  refine xR_bp 5 (119 : Int32) dM_wordOf_5 (by decide) ?_
  refine xR_bp 7 (110 : Int32) dM_wordOf_7 (by decide) ?_
  refine xR_ic 9 (0 : Int32) dM_wordOf_9 (by decide) ?_
  refine xR_ic 10 (0 : Int32) dM_wordOf_10 (by decide) ?_
  refine xR_ic 11 (0 : Int32) dM_wordOf_11 (by decide) ?_
  refine xR_callVi 12 cv_M_isWord ml_RX9_110 ⟨Nat.le_of_ble_eq_true rfl, Nat.le_of_ble_eq_true rfl⟩ xcf7 rfl 85 (by decide) rfl [.int (116 : Int32), .int (111 : Int32), .int (119 : Int32), .int (110 : Int32), .int (0 : Int32), .int (0 : Int32), .int (0 : Int32)] rfl rfl (Nat.le_of_ble_eq_true rfl) dM_wordOf_12 (kM_isWord G z m (116 : Int32) (111 : Int32) (119 : Int32) (110 : Int32) (0 : Int32) (0 : Int32) (0 : Int32)) (fun r12 => ?_)
  refine xR_ifeq 15 22 dM_wordOf_15 (by decide) ?_ ?_
  · refine xR_aln 22 0 dM_wordOf_22 rfl rfl ?_
    refine xR_bp 23 (119 : Int32) dM_wordOf_23 (by decide) ?_
    refine xR_bp 25 (101 : Int32) dM_wordOf_25 (by decide) ?_
    refine xR_bp 27 (116 : Int32) dM_wordOf_27 (by decide) ?_
    refine xR_ic 29 (0 : Int32) dM_wordOf_29 (by decide) ?_
    refine xR_ic 30 (0 : Int32) dM_wordOf_30 (by decide) ?_
    refine xR_ic 31 (0 : Int32) dM_wordOf_31 (by decide) ?_
    refine xR_ic 32 (0 : Int32) dM_wordOf_32 (by decide) ?_
    refine xR_callVi 33 cv_M_isWord ml_RX9_110 ⟨Nat.le_of_ble_eq_true rfl, Nat.le_of_ble_eq_true rfl⟩ xcf7 rfl 85 (by decide) rfl [.int (119 : Int32), .int (101 : Int32), .int (116 : Int32), .int (0 : Int32), .int (0 : Int32), .int (0 : Int32), .int (0 : Int32)] rfl rfl (Nat.le_of_ble_eq_true rfl) dM_wordOf_33 (kM_isWord G z m (119 : Int32) (101 : Int32) (116 : Int32) (0 : Int32) (0 : Int32) (0 : Int32) (0 : Int32)) (fun r33 => ?_)
    refine xR_ifeq 36 43 dM_wordOf_36 (by decide) ?_ ?_
    · refine xR_aln 43 0 dM_wordOf_43 rfl rfl ?_
      refine xR_bp 44 (98 : Int32) dM_wordOf_44 (by decide) ?_
      refine xR_bp 46 (111 : Int32) dM_wordOf_46 (by decide) ?_
      refine xR_bp 48 (97 : Int32) dM_wordOf_48 (by decide) ?_
      refine xR_bp 50 (114 : Int32) dM_wordOf_50 (by decide) ?_
      refine xR_bp 52 (100 : Int32) dM_wordOf_52 (by decide) ?_
      refine xR_ic 54 (0 : Int32) dM_wordOf_54 (by decide) ?_
      refine xR_ic 55 (0 : Int32) dM_wordOf_55 (by decide) ?_
      refine xR_callVi 56 cv_M_isWord ml_RX9_110 ⟨Nat.le_of_ble_eq_true rfl, Nat.le_of_ble_eq_true rfl⟩ xcf7 rfl 85 (by decide) rfl [.int (98 : Int32), .int (111 : Int32), .int (97 : Int32), .int (114 : Int32), .int (100 : Int32), .int (0 : Int32), .int (0 : Int32)] rfl rfl (Nat.le_of_ble_eq_true rfl) dM_wordOf_56 (kM_isWord G z m (98 : Int32) (111 : Int32) (97 : Int32) (114 : Int32) (100 : Int32) (0 : Int32) (0 : Int32)) (fun r56 => ?_)
      refine xR_ifeq 59 66 dM_wordOf_59 (by decide) ?_ ?_
      · refine xR_aln 66 0 dM_wordOf_66 rfl rfl ?_
        refine xR_bp 67 (109 : Int32) dM_wordOf_67 (by decide) ?_
        refine xR_bp 69 (97 : Int32) dM_wordOf_69 (by decide) ?_
        refine xR_bp 71 (107 : Int32) dM_wordOf_71 (by decide) ?_
        refine xR_bp 73 (101 : Int32) dM_wordOf_73 (by decide) ?_
        refine xR_ic 75 (0 : Int32) dM_wordOf_75 (by decide) ?_
        refine xR_ic 76 (0 : Int32) dM_wordOf_76 (by decide) ?_
        refine xR_ic 77 (0 : Int32) dM_wordOf_77 (by decide) ?_
        refine xR_callVi 78 cv_M_isWord ml_RX9_110 ⟨Nat.le_of_ble_eq_true rfl, Nat.le_of_ble_eq_true rfl⟩ xcf7 rfl 85 (by decide) rfl [.int (109 : Int32), .int (97 : Int32), .int (107 : Int32), .int (101 : Int32), .int (0 : Int32), .int (0 : Int32), .int (0 : Int32)] rfl rfl (Nat.le_of_ble_eq_true rfl) dM_wordOf_78 (kM_isWord G z m (109 : Int32) (97 : Int32) (107 : Int32) (101 : Int32) (0 : Int32) (0 : Int32) (0 : Int32)) (fun r78 => ?_)
        refine xR_ifeq 81 88 dM_wordOf_81 (by decide) ?_ ?_
        · refine xR_aln 88 0 dM_wordOf_88 rfl rfl ?_
          refine xR_bp 89 (99 : Int32) dM_wordOf_89 (by decide) ?_
          refine xR_bp 91 (117 : Int32) dM_wordOf_91 (by decide) ?_
          refine xR_bp 93 (116 : Int32) dM_wordOf_93 (by decide) ?_
          refine xR_ic 95 (0 : Int32) dM_wordOf_95 (by decide) ?_
          refine xR_ic 96 (0 : Int32) dM_wordOf_96 (by decide) ?_
          refine xR_ic 97 (0 : Int32) dM_wordOf_97 (by decide) ?_
          refine xR_ic 98 (0 : Int32) dM_wordOf_98 (by decide) ?_
          refine xR_callVi 99 cv_M_isWord ml_RX9_110 ⟨Nat.le_of_ble_eq_true rfl, Nat.le_of_ble_eq_true rfl⟩ xcf7 rfl 85 (by decide) rfl [.int (99 : Int32), .int (117 : Int32), .int (116 : Int32), .int (0 : Int32), .int (0 : Int32), .int (0 : Int32), .int (0 : Int32)] rfl rfl (Nat.le_of_ble_eq_true rfl) dM_wordOf_99 (kM_isWord G z m (99 : Int32) (117 : Int32) (116 : Int32) (0 : Int32) (0 : Int32) (0 : Int32) (0 : Int32)) (fun r99 => ?_)
          refine xR_ifeq 102 109 dM_wordOf_102 (by decide) ?_ ?_
          · refine xR_aln 109 0 dM_wordOf_109 rfl rfl ?_
            refine xR_bp 110 (119 : Int32) dM_wordOf_110 (by decide) ?_
            refine xR_bp 112 (111 : Int32) dM_wordOf_112 (by decide) ?_
            refine xR_bp 114 (114 : Int32) dM_wordOf_114 (by decide) ?_
            refine xR_bp 116 (109 : Int32) dM_wordOf_116 (by decide) ?_
            refine xR_ic 118 (0 : Int32) dM_wordOf_118 (by decide) ?_
            refine xR_ic 119 (0 : Int32) dM_wordOf_119 (by decide) ?_
            refine xR_ic 120 (0 : Int32) dM_wordOf_120 (by decide) ?_
            refine xR_callVi 121 cv_M_isWord ml_RX9_110 ⟨Nat.le_of_ble_eq_true rfl, Nat.le_of_ble_eq_true rfl⟩ xcf7 rfl 85 (by decide) rfl [.int (119 : Int32), .int (111 : Int32), .int (114 : Int32), .int (109 : Int32), .int (0 : Int32), .int (0 : Int32), .int (0 : Int32)] rfl rfl (Nat.le_of_ble_eq_true rfl) dM_wordOf_121 (kM_isWord G z m (119 : Int32) (111 : Int32) (114 : Int32) (109 : Int32) (0 : Int32) (0 : Int32) (0 : Int32)) (fun r121 => ?_)
            refine xR_ifeq 124 132 dM_wordOf_124 (by decide) ?_ ?_
            · refine xR_aln 132 0 dM_wordOf_132 rfl rfl ?_
              refine xR_bp 133 (121 : Int32) dM_wordOf_133 (by decide) ?_
              refine xR_bp 135 (101 : Int32) dM_wordOf_135 (by decide) ?_
              refine xR_bp 137 (97 : Int32) dM_wordOf_137 (by decide) ?_
              refine xR_bp 139 (114 : Int32) dM_wordOf_139 (by decide) ?_
              refine xR_bp 141 (115 : Int32) dM_wordOf_141 (by decide) ?_
              refine xR_ic 143 (0 : Int32) dM_wordOf_143 (by decide) ?_
              refine xR_ic 144 (0 : Int32) dM_wordOf_144 (by decide) ?_
              refine xR_callVi 145 cv_M_isWord ml_RX9_110 ⟨Nat.le_of_ble_eq_true rfl, Nat.le_of_ble_eq_true rfl⟩ xcf7 rfl 85 (by decide) rfl [.int (121 : Int32), .int (101 : Int32), .int (97 : Int32), .int (114 : Int32), .int (115 : Int32), .int (0 : Int32), .int (0 : Int32)] rfl rfl (Nat.le_of_ble_eq_true rfl) dM_wordOf_145 (kM_isWord G z m (121 : Int32) (101 : Int32) (97 : Int32) (114 : Int32) (115 : Int32) (0 : Int32) (0 : Int32)) (fun r145 => ?_)
              refine xR_ifeq 148 156 dM_wordOf_148 (by decide) ?_ ?_
              · refine xR_ic 156 (0 : Int32) dM_wordOf_156 (by decide) ?_
                exact xR_iret 157 rfl rfl dM_wordOf_157
              · refine xR_bp 151 (7 : Int32) dM_wordOf_151 (by decide) ?_
                refine xR_goto 153 157 dM_wordOf_153 (by decide) ?_
                exact xR_iret 157 rfl rfl dM_wordOf_157
            · refine xR_bp 127 (6 : Int32) dM_wordOf_127 (by decide) ?_
              refine xR_goto 129 157 dM_wordOf_129 (by decide) ?_
              exact xR_iret 157 rfl rfl dM_wordOf_157
          · refine xR_ic 105 (5 : Int32) dM_wordOf_105 (by decide) ?_
            refine xR_goto 106 157 dM_wordOf_106 (by decide) ?_
            exact xR_iret 157 rfl rfl dM_wordOf_157
        · refine xR_ic 84 (4 : Int32) dM_wordOf_84 (by decide) ?_
          refine xR_goto 85 157 dM_wordOf_85 (by decide) ?_
          exact xR_iret 157 rfl rfl dM_wordOf_157
      · refine xR_ic 62 (3 : Int32) dM_wordOf_62 (by decide) ?_
        refine xR_goto 63 157 dM_wordOf_63 (by decide) ?_
        exact xR_iret 157 rfl rfl dM_wordOf_157
    · refine xR_ic 39 (2 : Int32) dM_wordOf_39 (by decide) ?_
      refine xR_goto 40 157 dM_wordOf_40 (by decide) ?_
      exact xR_iret 157 rfl rfl dM_wordOf_157
  · refine xR_ic 18 (1 : Int32) dM_wordOf_18 (by decide) ?_
    refine xR_goto 19 157 dM_wordOf_19 (by decide) ?_
    exact xR_iret 157 rfl rfl dM_wordOf_157
theorem dM_takesNumber_0 : decode (xb yyM_takesNumber) 0 = .ok (.aload_n 0, 1) := by decide +kernel
theorem dM_takesNumber_1 : decode (xb yyM_takesNumber) 1 = .ok (.invokevirtual 99, 3) := by decide +kernel
theorem dM_takesNumber_4 : decode (xb yyM_takesNumber) 4 = .ok (.aload_n 0, 1) := by decide +kernel
theorem dM_takesNumber_5 : decode (xb yyM_takesNumber) 5 = .ok (.iconst 0, 1) := by decide +kernel
theorem dM_takesNumber_6 : decode (xb yyM_takesNumber) 6 = .ok (.putfield 114, 3) := by decide +kernel
theorem dM_takesNumber_9 : decode (xb yyM_takesNumber) 9 = .ok (.aload_n 0, 1) := by decide +kernel
theorem dM_takesNumber_10 : decode (xb yyM_takesNumber) 10 = .ok (.aload_n 0, 1) := by decide +kernel
theorem dM_takesNumber_11 : decode (xb yyM_takesNumber) 11 = .ok (.getfield 90, 3) := by decide +kernel
theorem dM_takesNumber_14 : decode (xb yyM_takesNumber) 14 = .ok (.invokevirtual 93, 3) := by decide +kernel
theorem dM_takesNumber_17 : decode (xb yyM_takesNumber) 17 = .ok (.i2l, 1) := by decide +kernel
theorem dM_takesNumber_18 : decode (xb yyM_takesNumber) 18 = .ok (.ldc2_w 117, 3) := by decide +kernel
theorem dM_takesNumber_21 : decode (xb yyM_takesNumber) 21 = .ok (.ldc2_w 119, 3) := by decide +kernel
theorem dM_takesNumber_24 : decode (xb yyM_takesNumber) 24 = .ok (.invokestatic 40, 3) := by decide +kernel
theorem dM_takesNumber_27 : decode (xb yyM_takesNumber) 27 = .ok (.ifCond .eq 59, 3) := by decide +kernel
theorem dM_takesNumber_30 : decode (xb yyM_takesNumber) 30 = .ok (.aload_n 0, 1) := by decide +kernel
theorem dM_takesNumber_31 : decode (xb yyM_takesNumber) 31 = .ok (.aload_n 0, 1) := by decide +kernel
theorem dM_takesNumber_32 : decode (xb yyM_takesNumber) 32 = .ok (.getfield 90, 3) := by decide +kernel
theorem dM_takesNumber_35 : decode (xb yyM_takesNumber) 35 = .ok (.aload_n 0, 1) := by decide +kernel
theorem dM_takesNumber_36 : decode (xb yyM_takesNumber) 36 = .ok (.getfield 96, 3) := by decide +kernel
theorem dM_takesNumber_39 : decode (xb yyM_takesNumber) 39 = .ok (.isub, 1) := by decide +kernel
theorem dM_takesNumber_40 : decode (xb yyM_takesNumber) 40 = .ok (.iconst 2, 1) := by decide +kernel
theorem dM_takesNumber_41 : decode (xb yyM_takesNumber) 41 = .ok (.if_icmp .ge 25, 3) := by decide +kernel
theorem dM_takesNumber_44 : decode (xb yyM_takesNumber) 44 = .ok (.bipush 10, 2) := by decide +kernel
theorem dM_takesNumber_46 : decode (xb yyM_takesNumber) 46 = .ok (.aload_n 0, 1) := by decide +kernel
theorem dM_takesNumber_47 : decode (xb yyM_takesNumber) 47 = .ok (.getfield 114, 3) := by decide +kernel
theorem dM_takesNumber_50 : decode (xb yyM_takesNumber) 50 = .ok (.imul, 1) := by decide +kernel
theorem dM_takesNumber_51 : decode (xb yyM_takesNumber) 51 = .ok (.aload_n 0, 1) := by decide +kernel
theorem dM_takesNumber_52 : decode (xb yyM_takesNumber) 52 = .ok (.aload_n 0, 1) := by decide +kernel
theorem dM_takesNumber_53 : decode (xb yyM_takesNumber) 53 = .ok (.getfield 90, 3) := by decide +kernel
theorem dM_takesNumber_56 : decode (xb yyM_takesNumber) 56 = .ok (.invokevirtual 93, 3) := by decide +kernel
theorem dM_takesNumber_59 : decode (xb yyM_takesNumber) 59 = .ok (.iadd, 1) := by decide +kernel
theorem dM_takesNumber_60 : decode (xb yyM_takesNumber) 60 = .ok (.bipush 48, 2) := by decide +kernel
theorem dM_takesNumber_62 : decode (xb yyM_takesNumber) 62 = .ok (.isub, 1) := by decide +kernel
theorem dM_takesNumber_63 : decode (xb yyM_takesNumber) 63 = .ok (.goto 7, 3) := by decide +kernel
theorem dM_takesNumber_66 : decode (xb yyM_takesNumber) 66 = .ok (.aload_n 0, 1) := by decide +kernel
theorem dM_takesNumber_67 : decode (xb yyM_takesNumber) 67 = .ok (.getfield 114, 3) := by decide +kernel
theorem dM_takesNumber_70 : decode (xb yyM_takesNumber) 70 = .ok (.putfield 114, 3) := by decide +kernel
theorem dM_takesNumber_73 : decode (xb yyM_takesNumber) 73 = .ok (.aload_n 0, 1) := by decide +kernel
theorem dM_takesNumber_74 : decode (xb yyM_takesNumber) 74 = .ok (.dup, 1) := by decide +kernel
theorem dM_takesNumber_75 : decode (xb yyM_takesNumber) 75 = .ok (.getfield 90, 3) := by decide +kernel
theorem dM_takesNumber_78 : decode (xb yyM_takesNumber) 78 = .ok (.iconst 1, 1) := by decide +kernel
theorem dM_takesNumber_79 : decode (xb yyM_takesNumber) 79 = .ok (.iadd, 1) := by decide +kernel
theorem dM_takesNumber_80 : decode (xb yyM_takesNumber) 80 = .ok (.putfield 90, 3) := by decide +kernel
theorem dM_takesNumber_83 : decode (xb yyM_takesNumber) 83 = .ok (.goto (-74), 3) := by decide +kernel
theorem dM_takesNumber_86 : decode (xb yyM_takesNumber) 86 = .ok (.aload_n 0, 1) := by decide +kernel
theorem dM_takesNumber_87 : decode (xb yyM_takesNumber) 87 = .ok (.getfield 90, 3) := by decide +kernel
theorem dM_takesNumber_90 : decode (xb yyM_takesNumber) 90 = .ok (.aload_n 0, 1) := by decide +kernel
theorem dM_takesNumber_91 : decode (xb yyM_takesNumber) 91 = .ok (.getfield 96, 3) := by decide +kernel
theorem dM_takesNumber_94 : decode (xb yyM_takesNumber) 94 = .ok (.isub, 1) := by decide +kernel
theorem dM_takesNumber_95 : decode (xb yyM_takesNumber) 95 = .ok (.i2l, 1) := by decide +kernel
theorem dM_takesNumber_96 : decode (xb yyM_takesNumber) 96 = .ok (.lconst 1, 1) := by decide +kernel
theorem dM_takesNumber_97 : decode (xb yyM_takesNumber) 97 = .ok (.ldc2_w 121, 3) := by decide +kernel
theorem dM_takesNumber_100 : decode (xb yyM_takesNumber) 100 = .ok (.invokestatic 40, 3) := by decide +kernel
theorem dM_takesNumber_103 : decode (xb yyM_takesNumber) 103 = .ok (.ifCond .eq 22, 3) := by decide +kernel
theorem dM_takesNumber_106 : decode (xb yyM_takesNumber) 106 = .ok (.aload_n 0, 1) := by decide +kernel
theorem dM_takesNumber_107 : decode (xb yyM_takesNumber) 107 = .ok (.getfield 114, 3) := by decide +kernel
theorem dM_takesNumber_110 : decode (xb yyM_takesNumber) 110 = .ok (.i2l, 1) := by decide +kernel
theorem dM_takesNumber_111 : decode (xb yyM_takesNumber) 111 = .ok (.iload_n 1, 1) := by decide +kernel
theorem dM_takesNumber_112 : decode (xb yyM_takesNumber) 112 = .ok (.i2l, 1) := by decide +kernel
theorem dM_takesNumber_113 : decode (xb yyM_takesNumber) 113 = .ok (.iload_n 2, 1) := by decide +kernel
theorem dM_takesNumber_114 : decode (xb yyM_takesNumber) 114 = .ok (.i2l, 1) := by decide +kernel
theorem dM_takesNumber_115 : decode (xb yyM_takesNumber) 115 = .ok (.invokestatic 40, 3) := by decide +kernel
theorem dM_takesNumber_118 : decode (xb yyM_takesNumber) 118 = .ok (.ifCond .eq 7, 3) := by decide +kernel
theorem dM_takesNumber_121 : decode (xb yyM_takesNumber) 121 = .ok (.iconst 1, 1) := by decide +kernel
theorem dM_takesNumber_122 : decode (xb yyM_takesNumber) 122 = .ok (.goto 4, 3) := by decide +kernel
theorem dM_takesNumber_125 : decode (xb yyM_takesNumber) 125 = .ok (.iconst 0, 1) := by decide +kernel
theorem dM_takesNumber_126 : decode (xb yyM_takesNumber) 126 = .ok (.ireturn, 1) := by decide +kernel
def fM_takesNumber_b70 (k9 : Int32 → Int32 → xM → Option (Int32 × xM)) (v1 : Int32) (v2 : Int32) (s0 : Int32) (m : xM) : Option (Int32 × xM) := k9 v1 v2 (xset (xset m 6 3 s0) 6 1 (((xset m 6 3 s0).1 6 1) + (1 : Int32)))
def fM_takesNumber_l9  : Nat → Int32 → Int32 → xM → Option (Int32 × xM)
  | 0, _, _, _ => none
  | n + 1, v1, v2, m => (fM_byteAt m (m.1 6 1)).bind fun r14 => (fM_in ((r14).toInt64) (48 : Int64) (57 : Int64)).bind fun r24 => (if r24 = 0 then (fM_in ((((m.1 6 1) - (m.1 6 2))).toInt64) (1 : Int64) (2 : Int64)).bind fun r100 => (if r100 = 0 then some ((xnb (0 : Int32)), m) else (fM_in (((m.1 6 3)).toInt64) ((v1).toInt64) ((v2).toInt64)).bind fun r115 => (if r115 = 0 then some ((xnb (0 : Int32)), m) else some ((xnb (1 : Int32)), m))) else (if (2 : Int32) ≤ ((m.1 6 1) - (m.1 6 2)) then fM_takesNumber_b70 (fM_takesNumber_l9 n) v1 v2 (m.1 6 3) m else (fM_byteAt m (m.1 6 1)).bind fun r56 => fM_takesNumber_b70 (fM_takesNumber_l9 n) v1 v2 ((((10 : Int32) * (m.1 6 3)) + r56) - (48 : Int32)) m))
def fM_takesNumber  (v1 : Int32) (v2 : Int32) (m : xM) : Option (Int32 × xM) := (fM_blanks m).bind fun r1 => fM_takesNumber_l9 xfu v1 v2 (xset r1 6 3 (0 : Int32))
set_option maxRecDepth 100000 in
set_option maxHeartbeats 4000000 in
theorem kM_takesNumber_b70 (G : xG)   (z : xM)  (k9 : Int32 → Int32 → xM → Option (Int32 × xM)) (hk9 : ∀ (v1 : Int32) (v2 : Int32) (m : xM), xR G yyM_takesNumber (emim z) 9 [(0, .ref (xa G 85)), (1, .int v1), (2, .int v2)] [] (z, m) (k9 v1 v2 m)) (v1 : Int32) (v2 : Int32) (s0 : Int32) (m : xM) : xR G yyM_takesNumber (emim z) 70 [(0, .ref (xa G 85)), (1, .int v1), (2, .int v2)] [.int s0, .ref (xa G 85)] (z, m) (fM_takesNumber_b70 k9 v1 v2 s0 m) := by
  unfold fM_takesNumber_b70
  refine xR_putf 70 xcf7 9 85 (by decide) (by decide) rfl rfl rfl rfl (Nat.le_of_ble_eq_true rfl) (z, (xset m 6 3 s0)) (xW_mint (i := 3) rfl) fl_RX9_114 dM_takesNumber_70 ?_
  refine xR_aln 73 0 dM_takesNumber_73 rfl rfl ?_
  refine xR_dup 74 dM_takesNumber_74 rfl ?_
  refine xR_getf 75 xcf7 7 85 (by decide) (by decide) rfl (v := .int ((xset m 6 3 s0).1 6 1)) rfl fl_RX9_90 dM_takesNumber_75 ?_
  refine xR_ic 78 (1 : Int32) dM_takesNumber_78 (by decide) ?_
  refine xR_iadd 79 dM_takesNumber_79 ?_
  refine xR_putf 80 xcf7 7 85 (by decide) (by decide) rfl rfl rfl rfl (Nat.le_of_ble_eq_true rfl) (z, (xset (xset m 6 3 s0) 6 1 (((xset m 6 3 s0).1 6 1) + (1 : Int32)))) (xW_mint (i := 1) rfl) fl_RX9_90 dM_takesNumber_80 ?_
  refine xR_goto 83 9 dM_takesNumber_83 (by decide) ?_
  exact hk9 v1 v2 (xset (xset m 6 3 s0) 6 1 (((xset m 6 3 s0).1 6 1) + (1 : Int32)))
set_option maxRecDepth 100000 in
set_option maxHeartbeats 4000000 in
theorem kM_takesNumber_l9 (G : xG)   (z : xM)    : ∀ (n : Nat) (v1 : Int32) (v2 : Int32) (m : xM), xR G yyM_takesNumber (emim z) 9 [(0, .ref (xa G 85)), (1, .int v1), (2, .int v2)] [] (z, m) (fM_takesNumber_l9  n v1 v2 m) := by
  intro n
  induction n with
  | zero =>
    intro v1 v2 m
    rw [fM_takesNumber_l9]
    exact xR_none
  | succ n ih =>
    intro v1 v2 m
    rw [fM_takesNumber_l9]
    refine xR_aln 9 0 dM_takesNumber_9 rfl rfl ?_
    refine xR_aln 10 0 dM_takesNumber_10 rfl rfl ?_
    refine xR_getf 11 xcf7 7 85 (by decide) (by decide) rfl (v := .int (m.1 6 1)) rfl fl_RX9_90 dM_takesNumber_11 ?_
    refine xR_callVi 14 cv_M_byteAt ml_RX9_93 ⟨Nat.le_of_ble_eq_true rfl, Nat.le_of_ble_eq_true rfl⟩ xcf7 rfl 85 (by decide) rfl [.int (m.1 6 1)] rfl rfl (Nat.le_of_ble_eq_true rfl) dM_takesNumber_14 (kM_byteAt G z m (m.1 6 1)) (fun r14 => ?_)
    refine xR_i2l 17 dM_takesNumber_17 ?_
    refine xR_ldc2 18 cl_RX9_117 dM_takesNumber_18 ?_
    refine xR_ldc2 21 cl_RX9_119 dM_takesNumber_21 ?_
    refine xR_callSi 24 cs_M_in ml_RX9_40 ⟨Nat.le_of_ble_eq_true rfl, Nat.le_of_ble_eq_true rfl⟩ [.long ((r14).toInt64), .long (48 : Int64), .long (57 : Int64)] rfl rfl (Nat.le_of_ble_eq_true rfl) dM_takesNumber_24 (kM_in G (z, m) ((r14).toInt64) (48 : Int64) (57 : Int64)) (fun r24 => ?_)
    refine xR_ifeq 27 86 dM_takesNumber_27 (by decide) ?_ ?_
    · refine xR_aln 86 0 dM_takesNumber_86 rfl rfl ?_
      refine xR_getf 87 xcf7 7 85 (by decide) (by decide) rfl (v := .int (m.1 6 1)) rfl fl_RX9_90 dM_takesNumber_87 ?_
      refine xR_aln 90 0 dM_takesNumber_90 rfl rfl ?_
      refine xR_getf 91 xcf7 8 85 (by decide) (by decide) rfl (v := .int (m.1 6 2)) rfl fl_RX9_96 dM_takesNumber_91 ?_
      refine xR_isub 94 dM_takesNumber_94 ?_
      refine xR_i2l 95 dM_takesNumber_95 ?_
      refine xR_lc 96 (1 : Int64) dM_takesNumber_96 (by decide) ?_
      refine xR_ldc2 97 cl_RX9_121 dM_takesNumber_97 ?_
      refine xR_callSi 100 cs_M_in ml_RX9_40 ⟨Nat.le_of_ble_eq_true rfl, Nat.le_of_ble_eq_true rfl⟩ [.long ((((m.1 6 1) - (m.1 6 2))).toInt64), .long (1 : Int64), .long (2 : Int64)] rfl rfl (Nat.le_of_ble_eq_true rfl) dM_takesNumber_100 (kM_in G (z, m) ((((m.1 6 1) - (m.1 6 2))).toInt64) (1 : Int64) (2 : Int64)) (fun r100 => ?_)
      refine xR_ifeq 103 125 dM_takesNumber_103 (by decide) ?_ ?_
      · refine xR_ic 125 (0 : Int32) dM_takesNumber_125 (by decide) ?_
        exact xR_zret 126 rfl rfl dM_takesNumber_126
      · refine xR_aln 106 0 dM_takesNumber_106 rfl rfl ?_
        refine xR_getf 107 xcf7 9 85 (by decide) (by decide) rfl (v := .int (m.1 6 3)) rfl fl_RX9_114 dM_takesNumber_107 ?_
        refine xR_i2l 110 dM_takesNumber_110 ?_
        refine xR_iln 111 1 dM_takesNumber_111 rfl rfl ?_
        refine xR_i2l 112 dM_takesNumber_112 ?_
        refine xR_iln 113 2 dM_takesNumber_113 rfl rfl ?_
        refine xR_i2l 114 dM_takesNumber_114 ?_
        refine xR_callSi 115 cs_M_in ml_RX9_40 ⟨Nat.le_of_ble_eq_true rfl, Nat.le_of_ble_eq_true rfl⟩ [.long (((m.1 6 3)).toInt64), .long ((v1).toInt64), .long ((v2).toInt64)] rfl rfl (Nat.le_of_ble_eq_true rfl) dM_takesNumber_115 (kM_in G (z, m) (((m.1 6 3)).toInt64) ((v1).toInt64) ((v2).toInt64)) (fun r115 => ?_)
        refine xR_ifeq 118 125 dM_takesNumber_118 (by decide) ?_ ?_
        · refine xR_ic 125 (0 : Int32) dM_takesNumber_125 (by decide) ?_
          exact xR_zret 126 rfl rfl dM_takesNumber_126
        · refine xR_ic 121 (1 : Int32) dM_takesNumber_121 (by decide) ?_
          refine xR_goto 122 126 dM_takesNumber_122 (by decide) ?_
          exact xR_zret 126 rfl rfl dM_takesNumber_126
    · refine xR_aln 30 0 dM_takesNumber_30 rfl rfl ?_
      refine xR_aln 31 0 dM_takesNumber_31 rfl rfl ?_
      refine xR_getf 32 xcf7 7 85 (by decide) (by decide) rfl (v := .int (m.1 6 1)) rfl fl_RX9_90 dM_takesNumber_32 ?_
      refine xR_aln 35 0 dM_takesNumber_35 rfl rfl ?_
      refine xR_getf 36 xcf7 8 85 (by decide) (by decide) rfl (v := .int (m.1 6 2)) rfl fl_RX9_96 dM_takesNumber_36 ?_
      refine xR_isub 39 dM_takesNumber_39 ?_
      refine xR_ic 40 (2 : Int32) dM_takesNumber_40 (by decide) ?_
      refine xR_icge 41 66 dM_takesNumber_41 (by decide) ?_ ?_
      · refine xR_aln 66 0 dM_takesNumber_66 rfl rfl ?_
        refine xR_getf 67 xcf7 9 85 (by decide) (by decide) rfl (v := .int (m.1 6 3)) rfl fl_RX9_114 dM_takesNumber_67 ?_
        exact kM_takesNumber_b70 G z (fM_takesNumber_l9 n) ih v1 v2 (m.1 6 3) m
      · refine xR_bp 44 (10 : Int32) dM_takesNumber_44 (by decide) ?_
        refine xR_aln 46 0 dM_takesNumber_46 rfl rfl ?_
        refine xR_getf 47 xcf7 9 85 (by decide) (by decide) rfl (v := .int (m.1 6 3)) rfl fl_RX9_114 dM_takesNumber_47 ?_
        refine xR_imul 50 dM_takesNumber_50 ?_
        refine xR_aln 51 0 dM_takesNumber_51 rfl rfl ?_
        refine xR_aln 52 0 dM_takesNumber_52 rfl rfl ?_
        refine xR_getf 53 xcf7 7 85 (by decide) (by decide) rfl (v := .int (m.1 6 1)) rfl fl_RX9_90 dM_takesNumber_53 ?_
        refine xR_callVi 56 cv_M_byteAt ml_RX9_93 ⟨Nat.le_of_ble_eq_true rfl, Nat.le_of_ble_eq_true rfl⟩ xcf7 rfl 85 (by decide) rfl [.int (m.1 6 1)] rfl rfl (Nat.le_of_ble_eq_true rfl) dM_takesNumber_56 (kM_byteAt G z m (m.1 6 1)) (fun r56 => ?_)
        refine xR_iadd 59 dM_takesNumber_59 ?_
        refine xR_bp 60 (48 : Int32) dM_takesNumber_60 (by decide) ?_
        refine xR_isub 62 dM_takesNumber_62 ?_
        refine xR_goto 63 70 dM_takesNumber_63 (by decide) ?_
        exact kM_takesNumber_b70 G z (fM_takesNumber_l9 n) ih v1 v2 ((((10 : Int32) * (m.1 6 3)) + r56) - (48 : Int32)) m
set_option maxRecDepth 100000 in
set_option maxHeartbeats 4000000 in
theorem kM_takesNumber (G : xG)   (z : xM) (m : xM) (v1 : Int32) (v2 : Int32) : ∀ a, fM_takesNumber  v1 v2 m = some a → xCt G yyM_takesNumber [.ref (xa G 85), .int v1, .int v2] (z, m) (some (.int a.1)) (z, a.2) := by
  refine xR_ct (em := (emim z)) rfl (Nat.le_of_ble_eq_true rfl) ?_
  show xR G yyM_takesNumber _ 0 [(0, .ref (xa G 85)), (1, .int v1), (2, .int v2)] [] _ _
  unfold fM_takesNumber
  refine xR_aln 0 0 dM_takesNumber_0 rfl rfl ?_
  refine xR_callVvm 1 cv_M_blanks ml_RX9_99 ⟨Nat.le_of_ble_eq_true rfl, Nat.le_of_ble_eq_true rfl⟩ xcf7 rfl 85 (by decide) rfl [] rfl rfl (Nat.le_of_ble_eq_true rfl) dM_takesNumber_1 (kM_blanks G z m) (fun r1 => ?_)
  refine xR_aln 4 0 dM_takesNumber_4 rfl rfl ?_
  refine xR_ic 5 (0 : Int32) dM_takesNumber_5 (by decide) ?_
  refine xR_putf 6 xcf7 9 85 (by decide) (by decide) rfl rfl rfl rfl (Nat.le_of_ble_eq_true rfl) (z, (xset r1 6 3 (0 : Int32))) (xW_mint (i := 3) rfl) fl_RX9_114 dM_takesNumber_6 ?_
  exact kM_takesNumber_l9 G z xfu v1 v2 (xset r1 6 3 (0 : Int32))
theorem dM_takesEnd_0 : decode (xb yyM_takesEnd) 0 = .ok (.aload_n 0, 1) := by decide +kernel
theorem dM_takesEnd_1 : decode (xb yyM_takesEnd) 1 = .ok (.invokevirtual 99, 3) := by decide +kernel
theorem dM_takesEnd_4 : decode (xb yyM_takesEnd) 4 = .ok (.aload_n 0, 1) := by decide +kernel
theorem dM_takesEnd_5 : decode (xb yyM_takesEnd) 5 = .ok (.dup, 1) := by decide +kernel
theorem dM_takesEnd_6 : decode (xb yyM_takesEnd) 6 = .ok (.getfield 90, 3) := by decide +kernel
theorem dM_takesEnd_9 : decode (xb yyM_takesEnd) 9 = .ok (.iconst 1, 1) := by decide +kernel
theorem dM_takesEnd_10 : decode (xb yyM_takesEnd) 10 = .ok (.iadd, 1) := by decide +kernel
theorem dM_takesEnd_11 : decode (xb yyM_takesEnd) 11 = .ok (.putfield 90, 3) := by decide +kernel
theorem dM_takesEnd_14 : decode (xb yyM_takesEnd) 14 = .ok (.aload_n 0, 1) := by decide +kernel
theorem dM_takesEnd_15 : decode (xb yyM_takesEnd) 15 = .ok (.aload_n 0, 1) := by decide +kernel
theorem dM_takesEnd_16 : decode (xb yyM_takesEnd) 16 = .ok (.getfield 96, 3) := by decide +kernel
theorem dM_takesEnd_19 : decode (xb yyM_takesEnd) 19 = .ok (.invokevirtual 93, 3) := by decide +kernel
theorem dM_takesEnd_22 : decode (xb yyM_takesEnd) 22 = .ok (.bipush 59, 2) := by decide +kernel
theorem dM_takesEnd_24 : decode (xb yyM_takesEnd) 24 = .ok (.if_icmp .ne 7, 3) := by decide +kernel
theorem dM_takesEnd_27 : decode (xb yyM_takesEnd) 27 = .ok (.iconst 1, 1) := by decide +kernel
theorem dM_takesEnd_28 : decode (xb yyM_takesEnd) 28 = .ok (.goto 4, 3) := by decide +kernel
theorem dM_takesEnd_31 : decode (xb yyM_takesEnd) 31 = .ok (.iconst 0, 1) := by decide +kernel
theorem dM_takesEnd_32 : decode (xb yyM_takesEnd) 32 = .ok (.ireturn, 1) := by decide +kernel
def fM_takesEnd  (m : xM) : Option (Int32 × xM) := (fM_blanks m).bind fun r1 => (fM_byteAt (xset r1 6 1 ((r1.1 6 1) + (1 : Int32))) ((xset r1 6 1 ((r1.1 6 1) + (1 : Int32))).1 6 2)).bind fun r19 => (if r19 = (59 : Int32) then some ((xnb (1 : Int32)), (xset r1 6 1 ((r1.1 6 1) + (1 : Int32)))) else some ((xnb (0 : Int32)), (xset r1 6 1 ((r1.1 6 1) + (1 : Int32)))))
set_option maxRecDepth 100000 in
set_option maxHeartbeats 4000000 in
theorem kM_takesEnd (G : xG)   (z : xM) (m : xM) : ∀ a, fM_takesEnd  m = some a → xCt G yyM_takesEnd [.ref (xa G 85)] (z, m) (some (.int a.1)) (z, a.2) := by
  refine xR_ct (em := (emim z)) rfl (Nat.le_of_ble_eq_true rfl) ?_
  show xR G yyM_takesEnd _ 0 [(0, .ref (xa G 85))] [] _ _
  unfold fM_takesEnd
  refine xR_aln 0 0 dM_takesEnd_0 rfl rfl ?_
  refine xR_callVvm 1 cv_M_blanks ml_RX9_99 ⟨Nat.le_of_ble_eq_true rfl, Nat.le_of_ble_eq_true rfl⟩ xcf7 rfl 85 (by decide) rfl [] rfl rfl (Nat.le_of_ble_eq_true rfl) dM_takesEnd_1 (kM_blanks G z m) (fun r1 => ?_)
  refine xR_aln 4 0 dM_takesEnd_4 rfl rfl ?_
  refine xR_dup 5 dM_takesEnd_5 rfl ?_
  refine xR_getf 6 xcf7 7 85 (by decide) (by decide) rfl (v := .int (r1.1 6 1)) rfl fl_RX9_90 dM_takesEnd_6 ?_
  refine xR_ic 9 (1 : Int32) dM_takesEnd_9 (by decide) ?_
  refine xR_iadd 10 dM_takesEnd_10 ?_
  refine xR_putf 11 xcf7 7 85 (by decide) (by decide) rfl rfl rfl rfl (Nat.le_of_ble_eq_true rfl) (z, (xset r1 6 1 ((r1.1 6 1) + (1 : Int32)))) (xW_mint (i := 1) rfl) fl_RX9_90 dM_takesEnd_11 ?_
  refine xR_aln 14 0 dM_takesEnd_14 rfl rfl ?_
  refine xR_aln 15 0 dM_takesEnd_15 rfl rfl ?_
  refine xR_getf 16 xcf7 8 85 (by decide) (by decide) rfl (v := .int ((xset r1 6 1 ((r1.1 6 1) + (1 : Int32))).1 6 2)) rfl fl_RX9_96 dM_takesEnd_16 ?_
  refine xR_callVi 19 cv_M_byteAt ml_RX9_93 ⟨Nat.le_of_ble_eq_true rfl, Nat.le_of_ble_eq_true rfl⟩ xcf7 rfl 85 (by decide) rfl [.int ((xset r1 6 1 ((r1.1 6 1) + (1 : Int32))).1 6 2)] rfl rfl (Nat.le_of_ble_eq_true rfl) dM_takesEnd_19 (kM_byteAt G z (xset r1 6 1 ((r1.1 6 1) + (1 : Int32))) ((xset r1 6 1 ((r1.1 6 1) + (1 : Int32))).1 6 2)) (fun r19 => ?_)
  refine xR_bp 22 (59 : Int32) dM_takesEnd_22 (by decide) ?_
  refine xR_icne 24 31 dM_takesEnd_24 (by decide) ?_ ?_
  · refine xR_ic 31 (0 : Int32) dM_takesEnd_31 (by decide) ?_
    exact xR_zret 32 rfl rfl dM_takesEnd_32
  · refine xR_ic 27 (1 : Int32) dM_takesEnd_27 (by decide) ?_
    refine xR_goto 28 32 dM_takesEnd_28 (by decide) ?_
    exact xR_zret 32 rfl rfl dM_takesEnd_32
theorem dM_readsWet_0 : decode (xb yyM_readsWet) 0 = .ok (.iconst 0, 1) := by decide +kernel
theorem dM_readsWet_1 : decode (xb yyM_readsWet) 1 = .ok (.istore_n 1, 1) := by decide +kernel
theorem dM_readsWet_2 : decode (xb yyM_readsWet) 2 = .ok (.iload_n 1, 1) := by decide +kernel
theorem dM_readsWet_3 : decode (xb yyM_readsWet) 3 = .ok (.iconst 5, 1) := by decide +kernel
theorem dM_readsWet_4 : decode (xb yyM_readsWet) 4 = .ok (.if_icmp .ge 61, 3) := by decide +kernel
theorem dM_readsWet_7 : decode (xb yyM_readsWet) 7 = .ok (.aload_n 0, 1) := by decide +kernel
theorem dM_readsWet_8 : decode (xb yyM_readsWet) 8 = .ok (.iconst 0, 1) := by decide +kernel
theorem dM_readsWet_9 : decode (xb yyM_readsWet) 9 = .ok (.iconst 4, 1) := by decide +kernel
theorem dM_readsWet_10 : decode (xb yyM_readsWet) 10 = .ok (.invokevirtual 123, 3) := by decide +kernel
theorem dM_readsWet_13 : decode (xb yyM_readsWet) 13 = .ok (.ifCond .ne 5, 3) := by decide +kernel
theorem dM_readsWet_16 : decode (xb yyM_readsWet) 16 = .ok (.iconst 0, 1) := by decide +kernel
theorem dM_readsWet_17 : decode (xb yyM_readsWet) 17 = .ok (.ireturn, 1) := by decide +kernel
theorem dM_readsWet_18 : decode (xb yyM_readsWet) 18 = .ok (.aload_n 0, 1) := by decide +kernel
theorem dM_readsWet_19 : decode (xb yyM_readsWet) 19 = .ok (.getfield 7, 3) := by decide +kernel
theorem dM_readsWet_22 : decode (xb yyM_readsWet) 22 = .ok (.sipush 1281, 3) := by decide +kernel
theorem dM_readsWet_25 : decode (xb yyM_readsWet) 25 = .ok (.iload_n 1, 1) := by decide +kernel
theorem dM_readsWet_26 : decode (xb yyM_readsWet) 26 = .ok (.iadd, 1) := by decide +kernel
theorem dM_readsWet_27 : decode (xb yyM_readsWet) 27 = .ok (.aload_n 0, 1) := by decide +kernel
theorem dM_readsWet_28 : decode (xb yyM_readsWet) 28 = .ok (.getfield 114, 3) := by decide +kernel
theorem dM_readsWet_31 : decode (xb yyM_readsWet) 31 = .ok (.iastore, 1) := by decide +kernel
theorem dM_readsWet_32 : decode (xb yyM_readsWet) 32 = .ok (.aload_n 0, 1) := by decide +kernel
theorem dM_readsWet_33 : decode (xb yyM_readsWet) 33 = .ok (.invokevirtual 99, 3) := by decide +kernel
theorem dM_readsWet_36 : decode (xb yyM_readsWet) 36 = .ok (.aload_n 0, 1) := by decide +kernel
theorem dM_readsWet_37 : decode (xb yyM_readsWet) 37 = .ok (.aload_n 0, 1) := by decide +kernel
theorem dM_readsWet_38 : decode (xb yyM_readsWet) 38 = .ok (.getfield 90, 3) := by decide +kernel
theorem dM_readsWet_41 : decode (xb yyM_readsWet) 41 = .ok (.invokevirtual 93, 3) := by decide +kernel
theorem dM_readsWet_44 : decode (xb yyM_readsWet) 44 = .ok (.i2l, 1) := by decide +kernel
theorem dM_readsWet_45 : decode (xb yyM_readsWet) 45 = .ok (.ldc2_w 117, 3) := by decide +kernel
theorem dM_readsWet_48 : decode (xb yyM_readsWet) 48 = .ok (.ldc2_w 119, 3) := by decide +kernel
theorem dM_readsWet_51 : decode (xb yyM_readsWet) 51 = .ok (.invokestatic 40, 3) := by decide +kernel
theorem dM_readsWet_54 : decode (xb yyM_readsWet) 54 = .ok (.ifCond .ne 5, 3) := by decide +kernel
theorem dM_readsWet_57 : decode (xb yyM_readsWet) 57 = .ok (.iconst 1, 1) := by decide +kernel
theorem dM_readsWet_58 : decode (xb yyM_readsWet) 58 = .ok (.ireturn, 1) := by decide +kernel
theorem dM_readsWet_59 : decode (xb yyM_readsWet) 59 = .ok (.iinc 1 1, 3) := by decide +kernel
theorem dM_readsWet_62 : decode (xb yyM_readsWet) 62 = .ok (.goto (-60), 3) := by decide +kernel
theorem dM_readsWet_65 : decode (xb yyM_readsWet) 65 = .ok (.iconst 0, 1) := by decide +kernel
theorem dM_readsWet_66 : decode (xb yyM_readsWet) 66 = .ok (.ireturn, 1) := by decide +kernel
def fM_readsWet_l2  : Nat → Int32 → xM → Option (Int32 × xM)
  | 0, _, _ => none
  | n + 1, v1, m => (if (5 : Int32) ≤ v1 then some ((xnb (0 : Int32)), m) else (fM_takesNumber (0 : Int32) (4 : Int32) m).bind fun r10 => (if r10.1 = 0 then some ((xnb (0 : Int32)), r10.2) else xck 1752 ((1281 : Int32) + v1) ((fM_blanks (xset r10.2 0 ((1281 : Int32) + v1).toNatClampNeg (r10.2.1 6 3))).bind fun r33 => (fM_byteAt r33 (r33.1 6 1)).bind fun r41 => (fM_in ((r41).toInt64) (48 : Int64) (57 : Int64)).bind fun r51 => (if r51 = 0 then some ((xnb (1 : Int32)), r33) else fM_readsWet_l2 n (v1 + 1) r33))))
def fM_readsWet  (m : xM) : Option (Int32 × xM) := fM_readsWet_l2 xfu (0 : Int32) m
set_option maxRecDepth 100000 in
set_option maxHeartbeats 4000000 in
theorem kM_readsWet_l2 (G : xG)   (z : xM)    : ∀ (n : Nat) (v1 : Int32) (m : xM), xR G yyM_readsWet (emim z) 2 [(0, .ref (xa G 85)), (1, .int v1)] [] (z, m) (fM_readsWet_l2  n v1 m) := by
  intro n
  induction n with
  | zero =>
    intro v1 m
    rw [fM_readsWet_l2]
    exact xR_none
  | succ n ih =>
    intro v1 m
    rw [fM_readsWet_l2]
    refine xR_iln 2 1 dM_readsWet_2 rfl rfl ?_
    refine xR_ic 3 (5 : Int32) dM_readsWet_3 (by decide) ?_
    refine xR_icge 4 65 dM_readsWet_4 (by decide) ?_ ?_
    · refine xR_ic 65 (0 : Int32) dM_readsWet_65 (by decide) ?_
      exact xR_zret 66 rfl rfl dM_readsWet_66
    · refine xR_aln 7 0 dM_readsWet_7 rfl rfl ?_
      refine xR_ic 8 (0 : Int32) dM_readsWet_8 (by decide) ?_
      refine xR_ic 9 (4 : Int32) dM_readsWet_9 (by decide) ?_
      refine xR_callVim 10 cv_M_takesNumber ml_RX9_123 ⟨Nat.le_of_ble_eq_true rfl, Nat.le_of_ble_eq_true rfl⟩ xcf7 rfl 85 (by decide) rfl [.int (0 : Int32), .int (4 : Int32)] rfl rfl (Nat.le_of_ble_eq_true rfl) dM_readsWet_10 (kM_takesNumber G z m (0 : Int32) (4 : Int32)) (fun r10 => ?_)
      refine xR_ifne 13 18 dM_readsWet_13 (by decide) ?_ ?_
      · refine xR_aln 18 0 dM_readsWet_18 rfl rfl ?_
        refine xR_getf 19 xcf7 0 85 (by decide) (by decide) rfl (v := .ref (xa G 86)) rfl fl_RX9_7 dM_readsWet_19 ?_
        refine xR_sp 22 (1281 : Int32) dM_readsWet_22 (by decide) ?_
        refine xR_iln 25 1 dM_readsWet_25 rfl rfl ?_
        refine xR_iadd 26 dM_readsWet_26 ?_
        refine xR_aln 27 0 dM_readsWet_27 rfl rfl ?_
        refine xR_getf 28 xcf7 9 85 (by decide) (by decide) rfl (v := .int (r10.2.1 6 3)) rfl fl_RX9_114 dM_readsWet_28 ?_
        refine xR_iast 31 86 (by decide) rfl (z, (xset r10.2 0 ((1281 : Int32) + v1).toNatClampNeg (r10.2.1 6 3))) xW_m0 dM_readsWet_31 ?_
        refine xR_aln 32 0 dM_readsWet_32 rfl rfl ?_
        refine xR_callVvm 33 cv_M_blanks ml_RX9_99 ⟨Nat.le_of_ble_eq_true rfl, Nat.le_of_ble_eq_true rfl⟩ xcf7 rfl 85 (by decide) rfl [] rfl rfl (Nat.le_of_ble_eq_true rfl) dM_readsWet_33 (kM_blanks G z (xset r10.2 0 ((1281 : Int32) + v1).toNatClampNeg (r10.2.1 6 3))) (fun r33 => ?_)
        refine xR_aln 36 0 dM_readsWet_36 rfl rfl ?_
        refine xR_aln 37 0 dM_readsWet_37 rfl rfl ?_
        refine xR_getf 38 xcf7 7 85 (by decide) (by decide) rfl (v := .int (r33.1 6 1)) rfl fl_RX9_90 dM_readsWet_38 ?_
        refine xR_callVi 41 cv_M_byteAt ml_RX9_93 ⟨Nat.le_of_ble_eq_true rfl, Nat.le_of_ble_eq_true rfl⟩ xcf7 rfl 85 (by decide) rfl [.int (r33.1 6 1)] rfl rfl (Nat.le_of_ble_eq_true rfl) dM_readsWet_41 (kM_byteAt G z r33 (r33.1 6 1)) (fun r41 => ?_)
        refine xR_i2l 44 dM_readsWet_44 ?_
        refine xR_ldc2 45 cl_RX9_117 dM_readsWet_45 ?_
        refine xR_ldc2 48 cl_RX9_119 dM_readsWet_48 ?_
        refine xR_callSi 51 cs_M_in ml_RX9_40 ⟨Nat.le_of_ble_eq_true rfl, Nat.le_of_ble_eq_true rfl⟩ [.long ((r41).toInt64), .long (48 : Int64), .long (57 : Int64)] rfl rfl (Nat.le_of_ble_eq_true rfl) dM_readsWet_51 (kM_in G (z, r33) ((r41).toInt64) (48 : Int64) (57 : Int64)) (fun r51 => ?_)
        refine xR_ifne 54 59 dM_readsWet_54 (by decide) ?_ ?_
        · refine xR_iinc 59 1 (v1 + 1) ([(1, .int (v1 + 1)), (0, .ref (xa G 85))]) dM_readsWet_59 rfl rfl (by decide) rfl ?_
          refine xR_goto 62 2 dM_readsWet_62 (by decide) ?_
          exact xR_sub [1, 0] rfl (ih (v1 + 1) r33)
        · refine xR_ic 57 (1 : Int32) dM_readsWet_57 (by decide) ?_
          exact xR_zret 58 rfl rfl dM_readsWet_58
      · refine xR_ic 16 (0 : Int32) dM_readsWet_16 (by decide) ?_
        exact xR_zret 17 rfl rfl dM_readsWet_17
set_option maxRecDepth 100000 in
set_option maxHeartbeats 4000000 in
theorem kM_readsWet (G : xG)   (z : xM) (m : xM) : ∀ a, fM_readsWet  m = some a → xCt G yyM_readsWet [.ref (xa G 85)] (z, m) (some (.int a.1)) (z, a.2) := by
  refine xR_ct (em := (emim z)) rfl (Nat.le_of_ble_eq_true rfl) ?_
  show xR G yyM_readsWet _ 0 [(0, .ref (xa G 85))] [] _ _
  unfold fM_readsWet
  refine xR_ic 0 (0 : Int32) dM_readsWet_0 (by decide) ?_
  refine xR_isn 1 ([(1, .int (0 : Int32)), (0, .ref (xa G 85))]) dM_readsWet_1 rfl (by decide) rfl ?_
  exact xR_sub [1, 0] rfl (kM_readsWet_l2 G z xfu (0 : Int32) m)
theorem dM_readsBoard_0 : decode (xb yyM_readsBoard) 0 = .ok (.aload_n 0, 1) := by decide +kernel
theorem dM_readsBoard_1 : decode (xb yyM_readsBoard) 1 = .ok (.getfield 7, 3) := by decide +kernel
theorem dM_readsBoard_4 : decode (xb yyM_readsBoard) 4 = .ok (.sipush 1278, 3) := by decide +kernel
theorem dM_readsBoard_7 : decode (xb yyM_readsBoard) 7 = .ok (.iaload, 1) := by decide +kernel
theorem dM_readsBoard_8 : decode (xb yyM_readsBoard) 8 = .ok (.bipush 6, 2) := by decide +kernel
theorem dM_readsBoard_10 : decode (xb yyM_readsBoard) 10 = .ok (.if_icmp .eq 12, 3) := by decide +kernel
theorem dM_readsBoard_13 : decode (xb yyM_readsBoard) 13 = .ok (.aload_n 0, 1) := by decide +kernel
theorem dM_readsBoard_14 : decode (xb yyM_readsBoard) 14 = .ok (.iconst 0, 1) := by decide +kernel
theorem dM_readsBoard_15 : decode (xb yyM_readsBoard) 15 = .ok (.iconst 5, 1) := by decide +kernel
theorem dM_readsBoard_16 : decode (xb yyM_readsBoard) 16 = .ok (.invokevirtual 123, 3) := by decide +kernel
theorem dM_readsBoard_19 : decode (xb yyM_readsBoard) 19 = .ok (.ifCond .ne 5, 3) := by decide +kernel
theorem dM_readsBoard_22 : decode (xb yyM_readsBoard) 22 = .ok (.iconst 0, 1) := by decide +kernel
theorem dM_readsBoard_23 : decode (xb yyM_readsBoard) 23 = .ok (.ireturn, 1) := by decide +kernel
theorem dM_readsBoard_24 : decode (xb yyM_readsBoard) 24 = .ok (.aload_n 0, 1) := by decide +kernel
theorem dM_readsBoard_25 : decode (xb yyM_readsBoard) 25 = .ok (.getfield 114, 3) := by decide +kernel
theorem dM_readsBoard_28 : decode (xb yyM_readsBoard) 28 = .ok (.istore_n 1, 1) := by decide +kernel
theorem dM_readsBoard_29 : decode (xb yyM_readsBoard) 29 = .ok (.aload_n 0, 1) := by decide +kernel
theorem dM_readsBoard_30 : decode (xb yyM_readsBoard) 30 = .ok (.iconst 0, 1) := by decide +kernel
theorem dM_readsBoard_31 : decode (xb yyM_readsBoard) 31 = .ok (.bipush 99, 2) := by decide +kernel
theorem dM_readsBoard_33 : decode (xb yyM_readsBoard) 33 = .ok (.invokevirtual 123, 3) := by decide +kernel
theorem dM_readsBoard_36 : decode (xb yyM_readsBoard) 36 = .ok (.ifCond .ne 5, 3) := by decide +kernel
theorem dM_readsBoard_39 : decode (xb yyM_readsBoard) 39 = .ok (.iconst 0, 1) := by decide +kernel
theorem dM_readsBoard_40 : decode (xb yyM_readsBoard) 40 = .ok (.ireturn, 1) := by decide +kernel
theorem dM_readsBoard_41 : decode (xb yyM_readsBoard) 41 = .ok (.aload_n 0, 1) := by decide +kernel
theorem dM_readsBoard_42 : decode (xb yyM_readsBoard) 42 = .ok (.getfield 114, 3) := by decide +kernel
theorem dM_readsBoard_45 : decode (xb yyM_readsBoard) 45 = .ok (.istore_n 2, 1) := by decide +kernel
theorem dM_readsBoard_46 : decode (xb yyM_readsBoard) 46 = .ok (.aload_n 0, 1) := by decide +kernel
theorem dM_readsBoard_47 : decode (xb yyM_readsBoard) 47 = .ok (.iconst 0, 1) := by decide +kernel
theorem dM_readsBoard_48 : decode (xb yyM_readsBoard) 48 = .ok (.bipush 9, 2) := by decide +kernel
theorem dM_readsBoard_50 : decode (xb yyM_readsBoard) 50 = .ok (.invokevirtual 123, 3) := by decide +kernel
theorem dM_readsBoard_53 : decode (xb yyM_readsBoard) 53 = .ok (.ifCond .ne 5, 3) := by decide +kernel
theorem dM_readsBoard_56 : decode (xb yyM_readsBoard) 56 = .ok (.iconst 0, 1) := by decide +kernel
theorem dM_readsBoard_57 : decode (xb yyM_readsBoard) 57 = .ok (.ireturn, 1) := by decide +kernel
theorem dM_readsBoard_58 : decode (xb yyM_readsBoard) 58 = .ok (.aload_n 0, 1) := by decide +kernel
theorem dM_readsBoard_59 : decode (xb yyM_readsBoard) 59 = .ok (.getfield 114, 3) := by decide +kernel
theorem dM_readsBoard_62 : decode (xb yyM_readsBoard) 62 = .ok (.istore_n 3, 1) := by decide +kernel
theorem dM_readsBoard_63 : decode (xb yyM_readsBoard) 63 = .ok (.aload_n 0, 1) := by decide +kernel
theorem dM_readsBoard_64 : decode (xb yyM_readsBoard) 64 = .ok (.iconst 0, 1) := by decide +kernel
theorem dM_readsBoard_65 : decode (xb yyM_readsBoard) 65 = .ok (.iconst 3, 1) := by decide +kernel
theorem dM_readsBoard_66 : decode (xb yyM_readsBoard) 66 = .ok (.invokevirtual 123, 3) := by decide +kernel
theorem dM_readsBoard_69 : decode (xb yyM_readsBoard) 69 = .ok (.ifCond .ne 5, 3) := by decide +kernel
theorem dM_readsBoard_72 : decode (xb yyM_readsBoard) 72 = .ok (.iconst 0, 1) := by decide +kernel
theorem dM_readsBoard_73 : decode (xb yyM_readsBoard) 73 = .ok (.ireturn, 1) := by decide +kernel
theorem dM_readsBoard_74 : decode (xb yyM_readsBoard) 74 = .ok (.aload_n 0, 1) := by decide +kernel
theorem dM_readsBoard_75 : decode (xb yyM_readsBoard) 75 = .ok (.sipush 1278, 3) := by decide +kernel
theorem dM_readsBoard_78 : decode (xb yyM_readsBoard) 78 = .ok (.iload_n 1, 1) := by decide +kernel
theorem dM_readsBoard_79 : decode (xb yyM_readsBoard) 79 = .ok (.iload_n 2, 1) := by decide +kernel
theorem dM_readsBoard_80 : decode (xb yyM_readsBoard) 80 = .ok (.iload_n 3, 1) := by decide +kernel
theorem dM_readsBoard_81 : decode (xb yyM_readsBoard) 81 = .ok (.aload_n 0, 1) := by decide +kernel
theorem dM_readsBoard_82 : decode (xb yyM_readsBoard) 82 = .ok (.getfield 114, 3) := by decide +kernel
theorem dM_readsBoard_85 : decode (xb yyM_readsBoard) 85 = .ok (.invokevirtual 80, 3) := by decide +kernel
theorem dM_readsBoard_88 : decode (xb yyM_readsBoard) 88 = .ok (.iconst 1, 1) := by decide +kernel
theorem dM_readsBoard_89 : decode (xb yyM_readsBoard) 89 = .ok (.ireturn, 1) := by decide +kernel
def fM_readsBoard  (m : xM) : Option (Int32 × xM) := xck 1752 (1278 : Int32) ((if (m.1 0 (1278 : Int32).toNatClampNeg) = (6 : Int32) then some ((xnb (0 : Int32)), m) else (fM_takesNumber (0 : Int32) (5 : Int32) m).bind fun r16 => (if r16.1 = 0 then some ((xnb (0 : Int32)), r16.2) else (fM_takesNumber (0 : Int32) (99 : Int32) r16.2).bind fun r33 => (if r33.1 = 0 then some ((xnb (0 : Int32)), r33.2) else (fM_takesNumber (0 : Int32) (9 : Int32) r33.2).bind fun r50 => (if r50.1 = 0 then some ((xnb (0 : Int32)), r50.2) else (fM_takesNumber (0 : Int32) (3 : Int32) r50.2).bind fun r66 => (if r66.1 = 0 then some ((xnb (0 : Int32)), r66.2) else (fM_adds (1278 : Int32) (r16.2.1 6 3) (r33.2.1 6 3) (r50.2.1 6 3) (r66.2.1 6 3) r66.2).bind fun r85 => some ((xnb (1 : Int32)), r85)))))))
set_option maxRecDepth 100000 in
set_option maxHeartbeats 4000000 in
theorem kM_readsBoard (G : xG)   (z : xM) (m : xM) : ∀ a, fM_readsBoard  m = some a → xCt G yyM_readsBoard [.ref (xa G 85)] (z, m) (some (.int a.1)) (z, a.2) := by
  refine xR_ct (em := (emim z)) rfl (Nat.le_of_ble_eq_true rfl) ?_
  show xR G yyM_readsBoard _ 0 [(0, .ref (xa G 85))] [] _ _
  unfold fM_readsBoard
  refine xR_aln 0 0 dM_readsBoard_0 rfl rfl ?_
  refine xR_getf 1 xcf7 0 85 (by decide) (by decide) rfl (v := .ref (xa G 86)) rfl fl_RX9_7 dM_readsBoard_1 ?_
  refine xR_sp 4 (1278 : Int32) dM_readsBoard_4 (by decide) ?_
  refine xR_iald 7 86 (by decide) rfl dM_readsBoard_7 ?_
  refine xR_bp 8 (6 : Int32) dM_readsBoard_8 (by decide) ?_
  refine xR_iceq 10 22 dM_readsBoard_10 (by decide) ?_ ?_
  · refine xR_ic 22 (0 : Int32) dM_readsBoard_22 (by decide) ?_
    exact xR_zret 23 rfl rfl dM_readsBoard_23
  · refine xR_aln 13 0 dM_readsBoard_13 rfl rfl ?_
    refine xR_ic 14 (0 : Int32) dM_readsBoard_14 (by decide) ?_
    refine xR_ic 15 (5 : Int32) dM_readsBoard_15 (by decide) ?_
    refine xR_callVim 16 cv_M_takesNumber ml_RX9_123 ⟨Nat.le_of_ble_eq_true rfl, Nat.le_of_ble_eq_true rfl⟩ xcf7 rfl 85 (by decide) rfl [.int (0 : Int32), .int (5 : Int32)] rfl rfl (Nat.le_of_ble_eq_true rfl) dM_readsBoard_16 (kM_takesNumber G z m (0 : Int32) (5 : Int32)) (fun r16 => ?_)
    refine xR_ifne 19 24 dM_readsBoard_19 (by decide) ?_ ?_
    · refine xR_aln 24 0 dM_readsBoard_24 rfl rfl ?_
      refine xR_getf 25 xcf7 9 85 (by decide) (by decide) rfl (v := .int (r16.2.1 6 3)) rfl fl_RX9_114 dM_readsBoard_25 ?_
      refine xR_isn 28 ([(1, .int (r16.2.1 6 3)), (0, .ref (xa G 85))]) dM_readsBoard_28 rfl (by decide) rfl ?_
      refine xR_aln 29 1 dM_readsBoard_29 rfl rfl ?_
      refine xR_ic 30 (0 : Int32) dM_readsBoard_30 (by decide) ?_
      refine xR_bp 31 (99 : Int32) dM_readsBoard_31 (by decide) ?_
      refine xR_callVim 33 cv_M_takesNumber ml_RX9_123 ⟨Nat.le_of_ble_eq_true rfl, Nat.le_of_ble_eq_true rfl⟩ xcf7 rfl 85 (by decide) rfl [.int (0 : Int32), .int (99 : Int32)] rfl rfl (Nat.le_of_ble_eq_true rfl) dM_readsBoard_33 (kM_takesNumber G z r16.2 (0 : Int32) (99 : Int32)) (fun r33 => ?_)
      refine xR_ifne 36 41 dM_readsBoard_36 (by decide) ?_ ?_
      · refine xR_aln 41 1 dM_readsBoard_41 rfl rfl ?_
        refine xR_getf 42 xcf7 9 85 (by decide) (by decide) rfl (v := .int (r33.2.1 6 3)) rfl fl_RX9_114 dM_readsBoard_42 ?_
        refine xR_isn 45 ([(2, .int (r33.2.1 6 3)), (1, .int (r16.2.1 6 3)), (0, .ref (xa G 85))]) dM_readsBoard_45 rfl (by decide) rfl ?_
        refine xR_aln 46 2 dM_readsBoard_46 rfl rfl ?_
        refine xR_ic 47 (0 : Int32) dM_readsBoard_47 (by decide) ?_
        refine xR_bp 48 (9 : Int32) dM_readsBoard_48 (by decide) ?_
        refine xR_callVim 50 cv_M_takesNumber ml_RX9_123 ⟨Nat.le_of_ble_eq_true rfl, Nat.le_of_ble_eq_true rfl⟩ xcf7 rfl 85 (by decide) rfl [.int (0 : Int32), .int (9 : Int32)] rfl rfl (Nat.le_of_ble_eq_true rfl) dM_readsBoard_50 (kM_takesNumber G z r33.2 (0 : Int32) (9 : Int32)) (fun r50 => ?_)
        refine xR_ifne 53 58 dM_readsBoard_53 (by decide) ?_ ?_
        · refine xR_aln 58 2 dM_readsBoard_58 rfl rfl ?_
          refine xR_getf 59 xcf7 9 85 (by decide) (by decide) rfl (v := .int (r50.2.1 6 3)) rfl fl_RX9_114 dM_readsBoard_59 ?_
          refine xR_isn 62 ([(3, .int (r50.2.1 6 3)), (2, .int (r33.2.1 6 3)), (1, .int (r16.2.1 6 3)), (0, .ref (xa G 85))]) dM_readsBoard_62 rfl (by decide) rfl ?_
          refine xR_aln 63 3 dM_readsBoard_63 rfl rfl ?_
          refine xR_ic 64 (0 : Int32) dM_readsBoard_64 (by decide) ?_
          refine xR_ic 65 (3 : Int32) dM_readsBoard_65 (by decide) ?_
          refine xR_callVim 66 cv_M_takesNumber ml_RX9_123 ⟨Nat.le_of_ble_eq_true rfl, Nat.le_of_ble_eq_true rfl⟩ xcf7 rfl 85 (by decide) rfl [.int (0 : Int32), .int (3 : Int32)] rfl rfl (Nat.le_of_ble_eq_true rfl) dM_readsBoard_66 (kM_takesNumber G z r50.2 (0 : Int32) (3 : Int32)) (fun r66 => ?_)
          refine xR_ifne 69 74 dM_readsBoard_69 (by decide) ?_ ?_
          · refine xR_aln 74 3 dM_readsBoard_74 rfl rfl ?_
            refine xR_sp 75 (1278 : Int32) dM_readsBoard_75 (by decide) ?_
            refine xR_iln 78 2 dM_readsBoard_78 rfl rfl ?_
            refine xR_iln 79 1 dM_readsBoard_79 rfl rfl ?_
            refine xR_iln 80 0 dM_readsBoard_80 rfl rfl ?_
            refine xR_aln 81 3 dM_readsBoard_81 rfl rfl ?_
            refine xR_getf 82 xcf7 9 85 (by decide) (by decide) rfl (v := .int (r66.2.1 6 3)) rfl fl_RX9_114 dM_readsBoard_82 ?_
            refine xR_callVvm 85 cv_M_adds ml_RX9_80 ⟨Nat.le_of_ble_eq_true rfl, Nat.le_of_ble_eq_true rfl⟩ xcf7 rfl 85 (by decide) rfl [.int (1278 : Int32), .int (r16.2.1 6 3), .int (r33.2.1 6 3), .int (r50.2.1 6 3), .int (r66.2.1 6 3)] rfl rfl (Nat.le_of_ble_eq_true rfl) dM_readsBoard_85 (kM_adds G z r66.2 (1278 : Int32) (r16.2.1 6 3) (r33.2.1 6 3) (r50.2.1 6 3) (r66.2.1 6 3)) (fun r85 => ?_)
            refine xR_ic 88 (1 : Int32) dM_readsBoard_88 (by decide) ?_
            exact xR_zret 89 rfl rfl dM_readsBoard_89
          · refine xR_ic 72 (0 : Int32) dM_readsBoard_72 (by decide) ?_
            exact xR_zret 73 rfl rfl dM_readsBoard_73
        · refine xR_ic 56 (0 : Int32) dM_readsBoard_56 (by decide) ?_
          exact xR_zret 57 rfl rfl dM_readsBoard_57
      · refine xR_ic 39 (0 : Int32) dM_readsBoard_39 (by decide) ?_
        exact xR_zret 40 rfl rfl dM_readsBoard_40
    · refine xR_ic 22 (0 : Int32) dM_readsBoard_22 (by decide) ?_
      exact xR_zret 23 rfl rfl dM_readsBoard_23
theorem dM_readsMake_0 : decode (xb yyM_readsMake) 0 = .ok (.aload_n 0, 1) := by decide +kernel
theorem dM_readsMake_1 : decode (xb yyM_readsMake) 1 = .ok (.getfield 7, 3) := by decide +kernel
theorem dM_readsMake_4 : decode (xb yyM_readsMake) 4 = .ok (.sipush 1279, 3) := by decide +kernel
theorem dM_readsMake_7 : decode (xb yyM_readsMake) 7 = .ok (.iaload, 1) := by decide +kernel
theorem dM_readsMake_8 : decode (xb yyM_readsMake) 8 = .ok (.iconst 4, 1) := by decide +kernel
theorem dM_readsMake_9 : decode (xb yyM_readsMake) 9 = .ok (.if_icmp .eq 12, 3) := by decide +kernel
theorem dM_readsMake_12 : decode (xb yyM_readsMake) 12 = .ok (.aload_n 0, 1) := by decide +kernel
theorem dM_readsMake_13 : decode (xb yyM_readsMake) 13 = .ok (.iconst 0, 1) := by decide +kernel
theorem dM_readsMake_14 : decode (xb yyM_readsMake) 14 = .ok (.iconst 5, 1) := by decide +kernel
theorem dM_readsMake_15 : decode (xb yyM_readsMake) 15 = .ok (.invokevirtual 123, 3) := by decide +kernel
theorem dM_readsMake_18 : decode (xb yyM_readsMake) 18 = .ok (.ifCond .ne 5, 3) := by decide +kernel
theorem dM_readsMake_21 : decode (xb yyM_readsMake) 21 = .ok (.iconst 0, 1) := by decide +kernel
theorem dM_readsMake_22 : decode (xb yyM_readsMake) 22 = .ok (.ireturn, 1) := by decide +kernel
theorem dM_readsMake_23 : decode (xb yyM_readsMake) 23 = .ok (.aload_n 0, 1) := by decide +kernel
theorem dM_readsMake_24 : decode (xb yyM_readsMake) 24 = .ok (.getfield 7, 3) := by decide +kernel
theorem dM_readsMake_27 : decode (xb yyM_readsMake) 27 = .ok (.sipush 1322, 3) := by decide +kernel
theorem dM_readsMake_30 : decode (xb yyM_readsMake) 30 = .ok (.aload_n 0, 1) := by decide +kernel
theorem dM_readsMake_31 : decode (xb yyM_readsMake) 31 = .ok (.getfield 7, 3) := by decide +kernel
theorem dM_readsMake_34 : decode (xb yyM_readsMake) 34 = .ok (.sipush 1279, 3) := by decide +kernel
theorem dM_readsMake_37 : decode (xb yyM_readsMake) 37 = .ok (.iaload, 1) := by decide +kernel
theorem dM_readsMake_38 : decode (xb yyM_readsMake) 38 = .ok (.iadd, 1) := by decide +kernel
theorem dM_readsMake_39 : decode (xb yyM_readsMake) 39 = .ok (.aload_n 0, 1) := by decide +kernel
theorem dM_readsMake_40 : decode (xb yyM_readsMake) 40 = .ok (.getfield 114, 3) := by decide +kernel
theorem dM_readsMake_43 : decode (xb yyM_readsMake) 43 = .ok (.iastore, 1) := by decide +kernel
theorem dM_readsMake_44 : decode (xb yyM_readsMake) 44 = .ok (.aload_n 0, 1) := by decide +kernel
theorem dM_readsMake_45 : decode (xb yyM_readsMake) 45 = .ok (.getfield 7, 3) := by decide +kernel
theorem dM_readsMake_48 : decode (xb yyM_readsMake) 48 = .ok (.sipush 1279, 3) := by decide +kernel
theorem dM_readsMake_51 : decode (xb yyM_readsMake) 51 = .ok (.dup2, 1) := by decide +kernel
theorem dM_readsMake_52 : decode (xb yyM_readsMake) 52 = .ok (.iaload, 1) := by decide +kernel
theorem dM_readsMake_53 : decode (xb yyM_readsMake) 53 = .ok (.iconst 1, 1) := by decide +kernel
theorem dM_readsMake_54 : decode (xb yyM_readsMake) 54 = .ok (.iadd, 1) := by decide +kernel
theorem dM_readsMake_55 : decode (xb yyM_readsMake) 55 = .ok (.iastore, 1) := by decide +kernel
theorem dM_readsMake_56 : decode (xb yyM_readsMake) 56 = .ok (.iconst 1, 1) := by decide +kernel
theorem dM_readsMake_57 : decode (xb yyM_readsMake) 57 = .ok (.ireturn, 1) := by decide +kernel
def fM_readsMake  (m : xM) : Option (Int32 × xM) := xck 1752 (1279 : Int32) ((if (m.1 0 (1279 : Int32).toNatClampNeg) = (4 : Int32) then some ((xnb (0 : Int32)), m) else (fM_takesNumber (0 : Int32) (5 : Int32) m).bind fun r15 => (if r15.1 = 0 then some ((xnb (0 : Int32)), r15.2) else xck 1752 (1279 : Int32) (xck 1752 ((1322 : Int32) + (r15.2.1 0 (1279 : Int32).toNatClampNeg)) (xck 1752 (1279 : Int32) (xck 1752 (1279 : Int32) (some ((xnb (1 : Int32)), (xset (xset r15.2 0 ((1322 : Int32) + (r15.2.1 0 (1279 : Int32).toNatClampNeg)).toNatClampNeg (r15.2.1 6 3)) 0 (1279 : Int32).toNatClampNeg (((xset r15.2 0 ((1322 : Int32) + (r15.2.1 0 (1279 : Int32).toNatClampNeg)).toNatClampNeg (r15.2.1 6 3)).1 0 (1279 : Int32).toNatClampNeg) + (1 : Int32)))))))))))
set_option maxRecDepth 100000 in
set_option maxHeartbeats 4000000 in
theorem kM_readsMake (G : xG)   (z : xM) (m : xM) : ∀ a, fM_readsMake  m = some a → xCt G yyM_readsMake [.ref (xa G 85)] (z, m) (some (.int a.1)) (z, a.2) := by
  refine xR_ct (em := (emim z)) rfl (Nat.le_of_ble_eq_true rfl) ?_
  show xR G yyM_readsMake _ 0 [(0, .ref (xa G 85))] [] _ _
  unfold fM_readsMake
  refine xR_aln 0 0 dM_readsMake_0 rfl rfl ?_
  refine xR_getf 1 xcf7 0 85 (by decide) (by decide) rfl (v := .ref (xa G 86)) rfl fl_RX9_7 dM_readsMake_1 ?_
  refine xR_sp 4 (1279 : Int32) dM_readsMake_4 (by decide) ?_
  refine xR_iald 7 86 (by decide) rfl dM_readsMake_7 ?_
  refine xR_ic 8 (4 : Int32) dM_readsMake_8 (by decide) ?_
  refine xR_iceq 9 21 dM_readsMake_9 (by decide) ?_ ?_
  · refine xR_ic 21 (0 : Int32) dM_readsMake_21 (by decide) ?_
    exact xR_zret 22 rfl rfl dM_readsMake_22
  · refine xR_aln 12 0 dM_readsMake_12 rfl rfl ?_
    refine xR_ic 13 (0 : Int32) dM_readsMake_13 (by decide) ?_
    refine xR_ic 14 (5 : Int32) dM_readsMake_14 (by decide) ?_
    refine xR_callVim 15 cv_M_takesNumber ml_RX9_123 ⟨Nat.le_of_ble_eq_true rfl, Nat.le_of_ble_eq_true rfl⟩ xcf7 rfl 85 (by decide) rfl [.int (0 : Int32), .int (5 : Int32)] rfl rfl (Nat.le_of_ble_eq_true rfl) dM_readsMake_15 (kM_takesNumber G z m (0 : Int32) (5 : Int32)) (fun r15 => ?_)
    refine xR_ifne 18 23 dM_readsMake_18 (by decide) ?_ ?_
    · refine xR_aln 23 0 dM_readsMake_23 rfl rfl ?_
      refine xR_getf 24 xcf7 0 85 (by decide) (by decide) rfl (v := .ref (xa G 86)) rfl fl_RX9_7 dM_readsMake_24 ?_
      refine xR_sp 27 (1322 : Int32) dM_readsMake_27 (by decide) ?_
      refine xR_aln 30 0 dM_readsMake_30 rfl rfl ?_
      refine xR_getf 31 xcf7 0 85 (by decide) (by decide) rfl (v := .ref (xa G 86)) rfl fl_RX9_7 dM_readsMake_31 ?_
      refine xR_sp 34 (1279 : Int32) dM_readsMake_34 (by decide) ?_
      refine xR_iald 37 86 (by decide) rfl dM_readsMake_37 ?_
      refine xR_iadd 38 dM_readsMake_38 ?_
      refine xR_aln 39 0 dM_readsMake_39 rfl rfl ?_
      refine xR_getf 40 xcf7 9 85 (by decide) (by decide) rfl (v := .int (r15.2.1 6 3)) rfl fl_RX9_114 dM_readsMake_40 ?_
      refine xR_iast 43 86 (by decide) rfl (z, (xset r15.2 0 ((1322 : Int32) + (r15.2.1 0 (1279 : Int32).toNatClampNeg)).toNatClampNeg (r15.2.1 6 3))) xW_m0 dM_readsMake_43 ?_
      refine xR_aln 44 0 dM_readsMake_44 rfl rfl ?_
      refine xR_getf 45 xcf7 0 85 (by decide) (by decide) rfl (v := .ref (xa G 86)) rfl fl_RX9_7 dM_readsMake_45 ?_
      refine xR_sp 48 (1279 : Int32) dM_readsMake_48 (by decide) ?_
      refine xR_dup2 51 dM_readsMake_51 rfl rfl ?_
      refine xR_iald 52 86 (by decide) rfl dM_readsMake_52 ?_
      refine xR_ic 53 (1 : Int32) dM_readsMake_53 (by decide) ?_
      refine xR_iadd 54 dM_readsMake_54 ?_
      refine xR_iast 55 86 (by decide) rfl (z, (xset (xset r15.2 0 ((1322 : Int32) + (r15.2.1 0 (1279 : Int32).toNatClampNeg)).toNatClampNeg (r15.2.1 6 3)) 0 (1279 : Int32).toNatClampNeg (((xset r15.2 0 ((1322 : Int32) + (r15.2.1 0 (1279 : Int32).toNatClampNeg)).toNatClampNeg (r15.2.1 6 3)).1 0 (1279 : Int32).toNatClampNeg) + (1 : Int32)))) xW_m0 dM_readsMake_55 ?_
      refine xR_ic 56 (1 : Int32) dM_readsMake_56 (by decide) ?_
      exact xR_zret 57 rfl rfl dM_readsMake_57
    · refine xR_ic 21 (0 : Int32) dM_readsMake_21 (by decide) ?_
      exact xR_zret 22 rfl rfl dM_readsMake_22
theorem dM_boardsOf_0 : decode (xb yyM_boardsOf) 0 = .ok (.iconst 0, 1) := by decide +kernel
theorem dM_boardsOf_1 : decode (xb yyM_boardsOf) 1 = .ok (.istore_n 3, 1) := by decide +kernel
theorem dM_boardsOf_2 : decode (xb yyM_boardsOf) 2 = .ok (.iconst 0, 1) := by decide +kernel
theorem dM_boardsOf_3 : decode (xb yyM_boardsOf) 3 = .ok (.istore 4, 2) := by decide +kernel
theorem dM_boardsOf_5 : decode (xb yyM_boardsOf) 5 = .ok (.iload 4, 2) := by decide +kernel
theorem dM_boardsOf_7 : decode (xb yyM_boardsOf) 7 = .ok (.aload_n 0, 1) := by decide +kernel
theorem dM_boardsOf_8 : decode (xb yyM_boardsOf) 8 = .ok (.getfield 7, 3) := by decide +kernel
theorem dM_boardsOf_11 : decode (xb yyM_boardsOf) 11 = .ok (.iload_n 1, 1) := by decide +kernel
theorem dM_boardsOf_12 : decode (xb yyM_boardsOf) 12 = .ok (.iconst 0, 1) := by decide +kernel
theorem dM_boardsOf_13 : decode (xb yyM_boardsOf) 13 = .ok (.iadd, 1) := by decide +kernel
theorem dM_boardsOf_14 : decode (xb yyM_boardsOf) 14 = .ok (.iaload, 1) := by decide +kernel
theorem dM_boardsOf_15 : decode (xb yyM_boardsOf) 15 = .ok (.if_icmp .ge 33, 3) := by decide +kernel
theorem dM_boardsOf_18 : decode (xb yyM_boardsOf) 18 = .ok (.iload_n 3, 1) := by decide +kernel
theorem dM_boardsOf_19 : decode (xb yyM_boardsOf) 19 = .ok (.aload_n 0, 1) := by decide +kernel
theorem dM_boardsOf_20 : decode (xb yyM_boardsOf) 20 = .ok (.getfield 7, 3) := by decide +kernel
theorem dM_boardsOf_23 : decode (xb yyM_boardsOf) 23 = .ok (.iload_n 1, 1) := by decide +kernel
theorem dM_boardsOf_24 : decode (xb yyM_boardsOf) 24 = .ok (.bipush 38, 2) := by decide +kernel
theorem dM_boardsOf_26 : decode (xb yyM_boardsOf) 26 = .ok (.iadd, 1) := by decide +kernel
theorem dM_boardsOf_27 : decode (xb yyM_boardsOf) 27 = .ok (.iload 4, 2) := by decide +kernel
theorem dM_boardsOf_29 : decode (xb yyM_boardsOf) 29 = .ok (.iadd, 1) := by decide +kernel
theorem dM_boardsOf_30 : decode (xb yyM_boardsOf) 30 = .ok (.iaload, 1) := by decide +kernel
theorem dM_boardsOf_31 : decode (xb yyM_boardsOf) 31 = .ok (.iload_n 2, 1) := by decide +kernel
theorem dM_boardsOf_32 : decode (xb yyM_boardsOf) 32 = .ok (.if_icmp .ne 7, 3) := by decide +kernel
theorem dM_boardsOf_35 : decode (xb yyM_boardsOf) 35 = .ok (.iconst 1, 1) := by decide +kernel
theorem dM_boardsOf_36 : decode (xb yyM_boardsOf) 36 = .ok (.goto 4, 3) := by decide +kernel
theorem dM_boardsOf_39 : decode (xb yyM_boardsOf) 39 = .ok (.iconst 0, 1) := by decide +kernel
theorem dM_boardsOf_40 : decode (xb yyM_boardsOf) 40 = .ok (.iadd, 1) := by decide +kernel
theorem dM_boardsOf_41 : decode (xb yyM_boardsOf) 41 = .ok (.istore_n 3, 1) := by decide +kernel
theorem dM_boardsOf_42 : decode (xb yyM_boardsOf) 42 = .ok (.iinc 4 1, 3) := by decide +kernel
theorem dM_boardsOf_45 : decode (xb yyM_boardsOf) 45 = .ok (.goto (-40), 3) := by decide +kernel
theorem dM_boardsOf_48 : decode (xb yyM_boardsOf) 48 = .ok (.iload_n 3, 1) := by decide +kernel
theorem dM_boardsOf_49 : decode (xb yyM_boardsOf) 49 = .ok (.ireturn, 1) := by decide +kernel
def fM_boardsOf_b40  (m : xM) (k5 : Int32 → Int32 → Int32 → Int32 → Option (Int32)) (v1 : Int32) (v2 : Int32) (v4 : Int32) (s0 : Int32) (s1 : Int32) : Option (Int32) := k5 v1 v2 (s1 + s0) (v4 + 1)
def fM_boardsOf_l5  (m : xM) : Nat → Int32 → Int32 → Int32 → Int32 → Option (Int32)
  | 0, _, _, _, _ => none
  | n + 1, v1, v2, v3, v4 => xck 1752 (v1 + (0 : Int32)) ((if (m.1 0 (v1 + (0 : Int32)).toNatClampNeg) ≤ v4 then some v3 else xck 1752 ((v1 + (38 : Int32)) + v4) ((if (m.1 0 ((v1 + (38 : Int32)) + v4).toNatClampNeg) = v2 then fM_boardsOf_b40 m (fM_boardsOf_l5 m n) v1 v2 v4 (1 : Int32) v3 else fM_boardsOf_b40 m (fM_boardsOf_l5 m n) v1 v2 v4 (0 : Int32) v3))))
def fM_boardsOf  (m : xM) (v1 : Int32) (v2 : Int32) : Option (Int32) := fM_boardsOf_l5 m xfu v1 v2 (0 : Int32) (0 : Int32)
set_option maxRecDepth 100000 in
set_option maxHeartbeats 4000000 in
theorem kM_boardsOf_b40 (G : xG)   (z : xM) (m : xM) (k5 : Int32 → Int32 → Int32 → Int32 → Option (Int32)) (hk5 : ∀ (v1 : Int32) (v2 : Int32) (v3 : Int32) (v4 : Int32), xR G yyM_boardsOf (emi (z, m)) 5 [(0, .ref (xa G 85)), (1, .int v1), (2, .int v2), (3, .int v3), (4, .int v4)] [] (z, m) (k5 v1 v2 v3 v4)) (v1 : Int32) (v2 : Int32) (v4 : Int32) (s0 : Int32) (s1 : Int32) : xR G yyM_boardsOf (emi (z, m)) 40 [(0, .ref (xa G 85)), (1, .int v1), (2, .int v2), (4, .int v4)] [.int s0, .int s1] (z, m) (fM_boardsOf_b40 m k5 v1 v2 v4 s0 s1) := by
  unfold fM_boardsOf_b40
  refine xR_iadd 40 dM_boardsOf_40 ?_
  refine xR_isn 41 ([(3, .int (s1 + s0)), (0, .ref (xa G 85)), (1, .int v1), (2, .int v2), (4, .int v4)]) dM_boardsOf_41 rfl (by decide) rfl ?_
  refine xR_iinc 42 4 (v4 + 1) ([(4, .int (v4 + 1)), (3, .int (s1 + s0)), (0, .ref (xa G 85)), (1, .int v1), (2, .int v2)]) dM_boardsOf_42 rfl rfl (by decide) rfl ?_
  refine xR_goto 45 5 dM_boardsOf_45 (by decide) ?_
  exact xR_sub [2, 3, 4, 1, 0] rfl (hk5 v1 v2 (s1 + s0) (v4 + 1))
set_option maxRecDepth 100000 in
set_option maxHeartbeats 4000000 in
theorem kM_boardsOf_l5 (G : xG)   (z : xM) (m : xM)   : ∀ (n : Nat) (v1 : Int32) (v2 : Int32) (v3 : Int32) (v4 : Int32), xR G yyM_boardsOf (emi (z, m)) 5 [(0, .ref (xa G 85)), (1, .int v1), (2, .int v2), (3, .int v3), (4, .int v4)] [] (z, m) (fM_boardsOf_l5 m n v1 v2 v3 v4) := by
  intro n
  induction n with
  | zero =>
    intro v1 v2 v3 v4
    rw [fM_boardsOf_l5]
    exact xR_none
  | succ n ih =>
    intro v1 v2 v3 v4
    rw [fM_boardsOf_l5]
    refine xR_il 5 4 dM_boardsOf_5 rfl ?_
    refine xR_aln 7 0 dM_boardsOf_7 rfl rfl ?_
    refine xR_getf 8 xcf7 0 85 (by decide) (by decide) rfl (v := .ref (xa G 86)) rfl fl_RX9_7 dM_boardsOf_8 ?_
    refine xR_iln 11 1 dM_boardsOf_11 rfl rfl ?_
    refine xR_ic 12 (0 : Int32) dM_boardsOf_12 (by decide) ?_
    refine xR_iadd 13 dM_boardsOf_13 ?_
    refine xR_iald 14 86 (by decide) rfl dM_boardsOf_14 ?_
    refine xR_icge 15 48 dM_boardsOf_15 (by decide) ?_ ?_
    · refine xR_iln 48 3 dM_boardsOf_48 rfl rfl ?_
      exact xR_iret 49 rfl rfl dM_boardsOf_49
    · refine xR_iln 18 3 dM_boardsOf_18 rfl rfl ?_
      refine xR_aln 19 0 dM_boardsOf_19 rfl rfl ?_
      refine xR_getf 20 xcf7 0 85 (by decide) (by decide) rfl (v := .ref (xa G 86)) rfl fl_RX9_7 dM_boardsOf_20 ?_
      refine xR_iln 23 1 dM_boardsOf_23 rfl rfl ?_
      refine xR_bp 24 (38 : Int32) dM_boardsOf_24 (by decide) ?_
      refine xR_iadd 26 dM_boardsOf_26 ?_
      refine xR_il 27 4 dM_boardsOf_27 rfl ?_
      refine xR_iadd 29 dM_boardsOf_29 ?_
      refine xR_iald 30 86 (by decide) rfl dM_boardsOf_30 ?_
      refine xR_iln 31 2 dM_boardsOf_31 rfl rfl ?_
      refine xR_icne 32 39 dM_boardsOf_32 (by decide) ?_ ?_
      · refine xR_ic 39 (0 : Int32) dM_boardsOf_39 (by decide) ?_
        exact xR_sub [0, 1, 2, 4] rfl (kM_boardsOf_b40 G z m (fM_boardsOf_l5 m n) ih v1 v2 v4 (0 : Int32) v3)
      · refine xR_ic 35 (1 : Int32) dM_boardsOf_35 (by decide) ?_
        refine xR_goto 36 40 dM_boardsOf_36 (by decide) ?_
        exact xR_sub [0, 1, 2, 4] rfl (kM_boardsOf_b40 G z m (fM_boardsOf_l5 m n) ih v1 v2 v4 (1 : Int32) v3)
set_option maxRecDepth 100000 in
set_option maxHeartbeats 4000000 in
theorem kM_boardsOf (G : xG)   (z : xM) (m : xM) (v1 : Int32) (v2 : Int32) : ∀ a, fM_boardsOf m v1 v2 = some a → xCt G yyM_boardsOf [.ref (xa G 85), .int v1, .int v2] (z, m) (some (.int a)) (z, m) := by
  refine xR_ct (em := (emi (z, m))) rfl (Nat.le_of_ble_eq_true rfl) ?_
  show xR G yyM_boardsOf _ 0 [(0, .ref (xa G 85)), (1, .int v1), (2, .int v2)] [] _ _
  unfold fM_boardsOf
  refine xR_ic 0 (0 : Int32) dM_boardsOf_0 (by decide) ?_
  refine xR_isn 1 ([(3, .int (0 : Int32)), (0, .ref (xa G 85)), (1, .int v1), (2, .int v2)]) dM_boardsOf_1 rfl (by decide) rfl ?_
  refine xR_ic 2 (0 : Int32) dM_boardsOf_2 (by decide) ?_
  refine xR_is 3 ([(4, .int (0 : Int32)), (3, .int (0 : Int32)), (0, .ref (xa G 85)), (1, .int v1), (2, .int v2)]) dM_boardsOf_3 (by decide) rfl ?_
  exact xR_sub [2, 3, 4, 1, 0] rfl (kM_boardsOf_l5 G z m xfu v1 v2 (0 : Int32) (0 : Int32))
theorem dM_readsCut_0 : decode (xb yyM_readsCut) 0 = .ok (.aload_n 0, 1) := by decide +kernel
theorem dM_readsCut_1 : decode (xb yyM_readsCut) 1 = .ok (.iconst 0, 1) := by decide +kernel
theorem dM_readsCut_2 : decode (xb yyM_readsCut) 2 = .ok (.aload_n 0, 1) := by decide +kernel
theorem dM_readsCut_3 : decode (xb yyM_readsCut) 3 = .ok (.getfield 7, 3) := by decide +kernel
theorem dM_readsCut_6 : decode (xb yyM_readsCut) 6 = .ok (.sipush 1278, 3) := by decide +kernel
theorem dM_readsCut_9 : decode (xb yyM_readsCut) 9 = .ok (.iaload, 1) := by decide +kernel
theorem dM_readsCut_10 : decode (xb yyM_readsCut) 10 = .ok (.iconst 1, 1) := by decide +kernel
theorem dM_readsCut_11 : decode (xb yyM_readsCut) 11 = .ok (.isub, 1) := by decide +kernel
theorem dM_readsCut_12 : decode (xb yyM_readsCut) 12 = .ok (.invokevirtual 123, 3) := by decide +kernel
theorem dM_readsCut_15 : decode (xb yyM_readsCut) 15 = .ok (.ifCond .eq 20, 3) := by decide +kernel
theorem dM_readsCut_18 : decode (xb yyM_readsCut) 18 = .ok (.aload_n 0, 1) := by decide +kernel
theorem dM_readsCut_19 : decode (xb yyM_readsCut) 19 = .ok (.getfield 7, 3) := by decide +kernel
theorem dM_readsCut_22 : decode (xb yyM_readsCut) 22 = .ok (.sipush 1316, 3) := by decide +kernel
theorem dM_readsCut_25 : decode (xb yyM_readsCut) 25 = .ok (.aload_n 0, 1) := by decide +kernel
theorem dM_readsCut_26 : decode (xb yyM_readsCut) 26 = .ok (.getfield 114, 3) := by decide +kernel
theorem dM_readsCut_29 : decode (xb yyM_readsCut) 29 = .ok (.iadd, 1) := by decide +kernel
theorem dM_readsCut_30 : decode (xb yyM_readsCut) 30 = .ok (.iaload, 1) := by decide +kernel
theorem dM_readsCut_31 : decode (xb yyM_readsCut) 31 = .ok (.iconst (-1), 1) := by decide +kernel
theorem dM_readsCut_32 : decode (xb yyM_readsCut) 32 = .ok (.if_icmp .eq 5, 3) := by decide +kernel
theorem dM_readsCut_35 : decode (xb yyM_readsCut) 35 = .ok (.iconst 0, 1) := by decide +kernel
theorem dM_readsCut_36 : decode (xb yyM_readsCut) 36 = .ok (.ireturn, 1) := by decide +kernel
theorem dM_readsCut_37 : decode (xb yyM_readsCut) 37 = .ok (.aload_n 0, 1) := by decide +kernel
theorem dM_readsCut_38 : decode (xb yyM_readsCut) 38 = .ok (.getfield 114, 3) := by decide +kernel
theorem dM_readsCut_41 : decode (xb yyM_readsCut) 41 = .ok (.istore_n 1, 1) := by decide +kernel
theorem dM_readsCut_42 : decode (xb yyM_readsCut) 42 = .ok (.aload_n 0, 1) := by decide +kernel
theorem dM_readsCut_43 : decode (xb yyM_readsCut) 43 = .ok (.iconst 0, 1) := by decide +kernel
theorem dM_readsCut_44 : decode (xb yyM_readsCut) 44 = .ok (.aload_n 0, 1) := by decide +kernel
theorem dM_readsCut_45 : decode (xb yyM_readsCut) 45 = .ok (.getfield 7, 3) := by decide +kernel
theorem dM_readsCut_48 : decode (xb yyM_readsCut) 48 = .ok (.sipush 1279, 3) := by decide +kernel
theorem dM_readsCut_51 : decode (xb yyM_readsCut) 51 = .ok (.iaload, 1) := by decide +kernel
theorem dM_readsCut_52 : decode (xb yyM_readsCut) 52 = .ok (.iconst 1, 1) := by decide +kernel
theorem dM_readsCut_53 : decode (xb yyM_readsCut) 53 = .ok (.isub, 1) := by decide +kernel
theorem dM_readsCut_54 : decode (xb yyM_readsCut) 54 = .ok (.invokevirtual 123, 3) := by decide +kernel
theorem dM_readsCut_57 : decode (xb yyM_readsCut) 57 = .ok (.ifCond .eq 18, 3) := by decide +kernel
theorem dM_readsCut_60 : decode (xb yyM_readsCut) 60 = .ok (.aload_n 0, 1) := by decide +kernel
theorem dM_readsCut_61 : decode (xb yyM_readsCut) 61 = .ok (.sipush 1278, 3) := by decide +kernel
theorem dM_readsCut_64 : decode (xb yyM_readsCut) 64 = .ok (.aload_n 0, 1) := by decide +kernel
theorem dM_readsCut_65 : decode (xb yyM_readsCut) 65 = .ok (.getfield 114, 3) := by decide +kernel
theorem dM_readsCut_68 : decode (xb yyM_readsCut) 68 = .ok (.invokevirtual 127, 3) := by decide +kernel
theorem dM_readsCut_71 : decode (xb yyM_readsCut) 71 = .ok (.iconst 4, 1) := by decide +kernel
theorem dM_readsCut_72 : decode (xb yyM_readsCut) 72 = .ok (.if_icmp .ne 5, 3) := by decide +kernel
theorem dM_readsCut_75 : decode (xb yyM_readsCut) 75 = .ok (.iconst 0, 1) := by decide +kernel
theorem dM_readsCut_76 : decode (xb yyM_readsCut) 76 = .ok (.ireturn, 1) := by decide +kernel
theorem dM_readsCut_77 : decode (xb yyM_readsCut) 77 = .ok (.aload_n 0, 1) := by decide +kernel
theorem dM_readsCut_78 : decode (xb yyM_readsCut) 78 = .ok (.getfield 7, 3) := by decide +kernel
theorem dM_readsCut_81 : decode (xb yyM_readsCut) 81 = .ok (.sipush 1316, 3) := by decide +kernel
theorem dM_readsCut_84 : decode (xb yyM_readsCut) 84 = .ok (.iload_n 1, 1) := by decide +kernel
theorem dM_readsCut_85 : decode (xb yyM_readsCut) 85 = .ok (.iadd, 1) := by decide +kernel
theorem dM_readsCut_86 : decode (xb yyM_readsCut) 86 = .ok (.aload_n 0, 1) := by decide +kernel
theorem dM_readsCut_87 : decode (xb yyM_readsCut) 87 = .ok (.getfield 114, 3) := by decide +kernel
theorem dM_readsCut_90 : decode (xb yyM_readsCut) 90 = .ok (.iastore, 1) := by decide +kernel
theorem dM_readsCut_91 : decode (xb yyM_readsCut) 91 = .ok (.iconst 1, 1) := by decide +kernel
theorem dM_readsCut_92 : decode (xb yyM_readsCut) 92 = .ok (.ireturn, 1) := by decide +kernel
def fM_readsCut  (m : xM) : Option (Int32 × xM) := xck 1752 (1278 : Int32) ((fM_takesNumber (0 : Int32) ((m.1 0 (1278 : Int32).toNatClampNeg) - (1 : Int32)) m).bind fun r12 => (if r12.1 = 0 then some ((xnb (0 : Int32)), r12.2) else xck 1752 ((1316 : Int32) + (r12.2.1 6 3)) ((if (r12.2.1 0 ((1316 : Int32) + (r12.2.1 6 3)).toNatClampNeg) = (-1 : Int32) then xck 1752 (1279 : Int32) ((fM_takesNumber (0 : Int32) ((r12.2.1 0 (1279 : Int32).toNatClampNeg) - (1 : Int32)) r12.2).bind fun r54 => (if r54.1 = 0 then some ((xnb (0 : Int32)), r54.2) else (fM_boardsOf r54.2 (1278 : Int32) (r54.2.1 6 3)).bind fun r68 => (if r68 = (4 : Int32) then some ((xnb (0 : Int32)), r54.2) else xck 1752 ((1316 : Int32) + (r12.2.1 6 3)) (some ((xnb (1 : Int32)), (xset r54.2 0 ((1316 : Int32) + (r12.2.1 6 3)).toNatClampNeg (r54.2.1 6 3))))))) else some ((xnb (0 : Int32)), r12.2)))))
set_option maxRecDepth 100000 in
set_option maxHeartbeats 4000000 in
theorem kM_readsCut (G : xG)   (z : xM) (m : xM) : ∀ a, fM_readsCut  m = some a → xCt G yyM_readsCut [.ref (xa G 85)] (z, m) (some (.int a.1)) (z, a.2) := by
  refine xR_ct (em := (emim z)) rfl (Nat.le_of_ble_eq_true rfl) ?_
  show xR G yyM_readsCut _ 0 [(0, .ref (xa G 85))] [] _ _
  unfold fM_readsCut
  refine xR_aln 0 0 dM_readsCut_0 rfl rfl ?_
  refine xR_ic 1 (0 : Int32) dM_readsCut_1 (by decide) ?_
  refine xR_aln 2 0 dM_readsCut_2 rfl rfl ?_
  refine xR_getf 3 xcf7 0 85 (by decide) (by decide) rfl (v := .ref (xa G 86)) rfl fl_RX9_7 dM_readsCut_3 ?_
  refine xR_sp 6 (1278 : Int32) dM_readsCut_6 (by decide) ?_
  refine xR_iald 9 86 (by decide) rfl dM_readsCut_9 ?_
  refine xR_ic 10 (1 : Int32) dM_readsCut_10 (by decide) ?_
  refine xR_isub 11 dM_readsCut_11 ?_
  refine xR_callVim 12 cv_M_takesNumber ml_RX9_123 ⟨Nat.le_of_ble_eq_true rfl, Nat.le_of_ble_eq_true rfl⟩ xcf7 rfl 85 (by decide) rfl [.int (0 : Int32), .int ((m.1 0 (1278 : Int32).toNatClampNeg) - (1 : Int32))] rfl rfl (Nat.le_of_ble_eq_true rfl) dM_readsCut_12 (kM_takesNumber G z m (0 : Int32) ((m.1 0 (1278 : Int32).toNatClampNeg) - (1 : Int32))) (fun r12 => ?_)
  refine xR_ifeq 15 35 dM_readsCut_15 (by decide) ?_ ?_
  · refine xR_ic 35 (0 : Int32) dM_readsCut_35 (by decide) ?_
    exact xR_zret 36 rfl rfl dM_readsCut_36
  · refine xR_aln 18 0 dM_readsCut_18 rfl rfl ?_
    refine xR_getf 19 xcf7 0 85 (by decide) (by decide) rfl (v := .ref (xa G 86)) rfl fl_RX9_7 dM_readsCut_19 ?_
    refine xR_sp 22 (1316 : Int32) dM_readsCut_22 (by decide) ?_
    refine xR_aln 25 0 dM_readsCut_25 rfl rfl ?_
    refine xR_getf 26 xcf7 9 85 (by decide) (by decide) rfl (v := .int (r12.2.1 6 3)) rfl fl_RX9_114 dM_readsCut_26 ?_
    refine xR_iadd 29 dM_readsCut_29 ?_
    refine xR_iald 30 86 (by decide) rfl dM_readsCut_30 ?_
    refine xR_ic 31 (-1 : Int32) dM_readsCut_31 (by decide) ?_
    refine xR_iceq 32 37 dM_readsCut_32 (by decide) ?_ ?_
    · refine xR_aln 37 0 dM_readsCut_37 rfl rfl ?_
      refine xR_getf 38 xcf7 9 85 (by decide) (by decide) rfl (v := .int (r12.2.1 6 3)) rfl fl_RX9_114 dM_readsCut_38 ?_
      refine xR_isn 41 ([(1, .int (r12.2.1 6 3)), (0, .ref (xa G 85))]) dM_readsCut_41 rfl (by decide) rfl ?_
      refine xR_aln 42 1 dM_readsCut_42 rfl rfl ?_
      refine xR_ic 43 (0 : Int32) dM_readsCut_43 (by decide) ?_
      refine xR_aln 44 1 dM_readsCut_44 rfl rfl ?_
      refine xR_getf 45 xcf7 0 85 (by decide) (by decide) rfl (v := .ref (xa G 86)) rfl fl_RX9_7 dM_readsCut_45 ?_
      refine xR_sp 48 (1279 : Int32) dM_readsCut_48 (by decide) ?_
      refine xR_iald 51 86 (by decide) rfl dM_readsCut_51 ?_
      refine xR_ic 52 (1 : Int32) dM_readsCut_52 (by decide) ?_
      refine xR_isub 53 dM_readsCut_53 ?_
      refine xR_callVim 54 cv_M_takesNumber ml_RX9_123 ⟨Nat.le_of_ble_eq_true rfl, Nat.le_of_ble_eq_true rfl⟩ xcf7 rfl 85 (by decide) rfl [.int (0 : Int32), .int ((r12.2.1 0 (1279 : Int32).toNatClampNeg) - (1 : Int32))] rfl rfl (Nat.le_of_ble_eq_true rfl) dM_readsCut_54 (kM_takesNumber G z r12.2 (0 : Int32) ((r12.2.1 0 (1279 : Int32).toNatClampNeg) - (1 : Int32))) (fun r54 => ?_)
      refine xR_ifeq 57 75 dM_readsCut_57 (by decide) ?_ ?_
      · refine xR_ic 75 (0 : Int32) dM_readsCut_75 (by decide) ?_
        exact xR_zret 76 rfl rfl dM_readsCut_76
      · refine xR_aln 60 1 dM_readsCut_60 rfl rfl ?_
        refine xR_sp 61 (1278 : Int32) dM_readsCut_61 (by decide) ?_
        refine xR_aln 64 1 dM_readsCut_64 rfl rfl ?_
        refine xR_getf 65 xcf7 9 85 (by decide) (by decide) rfl (v := .int (r54.2.1 6 3)) rfl fl_RX9_114 dM_readsCut_65 ?_
        refine xR_callVi 68 cv_M_boardsOf ml_RX9_127 ⟨Nat.le_of_ble_eq_true rfl, Nat.le_of_ble_eq_true rfl⟩ xcf7 rfl 85 (by decide) rfl [.int (1278 : Int32), .int (r54.2.1 6 3)] rfl rfl (Nat.le_of_ble_eq_true rfl) dM_readsCut_68 (kM_boardsOf G z r54.2 (1278 : Int32) (r54.2.1 6 3)) (fun r68 => ?_)
        refine xR_ic 71 (4 : Int32) dM_readsCut_71 (by decide) ?_
        refine xR_icne 72 77 dM_readsCut_72 (by decide) ?_ ?_
        · refine xR_aln 77 1 dM_readsCut_77 rfl rfl ?_
          refine xR_getf 78 xcf7 0 85 (by decide) (by decide) rfl (v := .ref (xa G 86)) rfl fl_RX9_7 dM_readsCut_78 ?_
          refine xR_sp 81 (1316 : Int32) dM_readsCut_81 (by decide) ?_
          refine xR_iln 84 0 dM_readsCut_84 rfl rfl ?_
          refine xR_iadd 85 dM_readsCut_85 ?_
          refine xR_aln 86 1 dM_readsCut_86 rfl rfl ?_
          refine xR_getf 87 xcf7 9 85 (by decide) (by decide) rfl (v := .int (r54.2.1 6 3)) rfl fl_RX9_114 dM_readsCut_87 ?_
          refine xR_iast 90 86 (by decide) rfl (z, (xset r54.2 0 ((1316 : Int32) + (r12.2.1 6 3)).toNatClampNeg (r54.2.1 6 3))) xW_m0 dM_readsCut_90 ?_
          refine xR_ic 91 (1 : Int32) dM_readsCut_91 (by decide) ?_
          exact xR_zret 92 rfl rfl dM_readsCut_92
        · refine xR_ic 75 (0 : Int32) dM_readsCut_75 (by decide) ?_
          exact xR_zret 76 rfl rfl dM_readsCut_76
    · refine xR_ic 35 (0 : Int32) dM_readsCut_35 (by decide) ?_
      exact xR_zret 36 rfl rfl dM_readsCut_36
theorem dM_readsWorm_0 : decode (xb yyM_readsWorm) 0 = .ok (.aload_n 0, 1) := by decide +kernel
theorem dM_readsWorm_1 : decode (xb yyM_readsWorm) 1 = .ok (.iconst 0, 1) := by decide +kernel
theorem dM_readsWorm_2 : decode (xb yyM_readsWorm) 2 = .ok (.aload_n 0, 1) := by decide +kernel
theorem dM_readsWorm_3 : decode (xb yyM_readsWorm) 3 = .ok (.getfield 7, 3) := by decide +kernel
theorem dM_readsWorm_6 : decode (xb yyM_readsWorm) 6 = .ok (.sipush 1278, 3) := by decide +kernel
theorem dM_readsWorm_9 : decode (xb yyM_readsWorm) 9 = .ok (.iaload, 1) := by decide +kernel
theorem dM_readsWorm_10 : decode (xb yyM_readsWorm) 10 = .ok (.iconst 1, 1) := by decide +kernel
theorem dM_readsWorm_11 : decode (xb yyM_readsWorm) 11 = .ok (.isub, 1) := by decide +kernel
theorem dM_readsWorm_12 : decode (xb yyM_readsWorm) 12 = .ok (.invokevirtual 123, 3) := by decide +kernel
theorem dM_readsWorm_15 : decode (xb yyM_readsWorm) 15 = .ok (.ifCond .ne 5, 3) := by decide +kernel
theorem dM_readsWorm_18 : decode (xb yyM_readsWorm) 18 = .ok (.iconst 0, 1) := by decide +kernel
theorem dM_readsWorm_19 : decode (xb yyM_readsWorm) 19 = .ok (.ireturn, 1) := by decide +kernel
theorem dM_readsWorm_20 : decode (xb yyM_readsWorm) 20 = .ok (.aload_n 0, 1) := by decide +kernel
theorem dM_readsWorm_21 : decode (xb yyM_readsWorm) 21 = .ok (.getfield 7, 3) := by decide +kernel
theorem dM_readsWorm_24 : decode (xb yyM_readsWorm) 24 = .ok (.sipush 1310, 3) := by decide +kernel
theorem dM_readsWorm_27 : decode (xb yyM_readsWorm) 27 = .ok (.aload_n 0, 1) := by decide +kernel
theorem dM_readsWorm_28 : decode (xb yyM_readsWorm) 28 = .ok (.getfield 114, 3) := by decide +kernel
theorem dM_readsWorm_31 : decode (xb yyM_readsWorm) 31 = .ok (.iadd, 1) := by decide +kernel
theorem dM_readsWorm_32 : decode (xb yyM_readsWorm) 32 = .ok (.iconst 1, 1) := by decide +kernel
theorem dM_readsWorm_33 : decode (xb yyM_readsWorm) 33 = .ok (.iastore, 1) := by decide +kernel
theorem dM_readsWorm_34 : decode (xb yyM_readsWorm) 34 = .ok (.iconst 1, 1) := by decide +kernel
theorem dM_readsWorm_35 : decode (xb yyM_readsWorm) 35 = .ok (.ireturn, 1) := by decide +kernel
def fM_readsWorm  (m : xM) : Option (Int32 × xM) := xck 1752 (1278 : Int32) ((fM_takesNumber (0 : Int32) ((m.1 0 (1278 : Int32).toNatClampNeg) - (1 : Int32)) m).bind fun r12 => (if r12.1 = 0 then some ((xnb (0 : Int32)), r12.2) else xck 1752 ((1310 : Int32) + (r12.2.1 6 3)) (some ((xnb (1 : Int32)), (xset r12.2 0 ((1310 : Int32) + (r12.2.1 6 3)).toNatClampNeg (1 : Int32))))))
set_option maxRecDepth 100000 in
set_option maxHeartbeats 4000000 in
theorem kM_readsWorm (G : xG)   (z : xM) (m : xM) : ∀ a, fM_readsWorm  m = some a → xCt G yyM_readsWorm [.ref (xa G 85)] (z, m) (some (.int a.1)) (z, a.2) := by
  refine xR_ct (em := (emim z)) rfl (Nat.le_of_ble_eq_true rfl) ?_
  show xR G yyM_readsWorm _ 0 [(0, .ref (xa G 85))] [] _ _
  unfold fM_readsWorm
  refine xR_aln 0 0 dM_readsWorm_0 rfl rfl ?_
  refine xR_ic 1 (0 : Int32) dM_readsWorm_1 (by decide) ?_
  refine xR_aln 2 0 dM_readsWorm_2 rfl rfl ?_
  refine xR_getf 3 xcf7 0 85 (by decide) (by decide) rfl (v := .ref (xa G 86)) rfl fl_RX9_7 dM_readsWorm_3 ?_
  refine xR_sp 6 (1278 : Int32) dM_readsWorm_6 (by decide) ?_
  refine xR_iald 9 86 (by decide) rfl dM_readsWorm_9 ?_
  refine xR_ic 10 (1 : Int32) dM_readsWorm_10 (by decide) ?_
  refine xR_isub 11 dM_readsWorm_11 ?_
  refine xR_callVim 12 cv_M_takesNumber ml_RX9_123 ⟨Nat.le_of_ble_eq_true rfl, Nat.le_of_ble_eq_true rfl⟩ xcf7 rfl 85 (by decide) rfl [.int (0 : Int32), .int ((m.1 0 (1278 : Int32).toNatClampNeg) - (1 : Int32))] rfl rfl (Nat.le_of_ble_eq_true rfl) dM_readsWorm_12 (kM_takesNumber G z m (0 : Int32) ((m.1 0 (1278 : Int32).toNatClampNeg) - (1 : Int32))) (fun r12 => ?_)
  refine xR_ifne 15 20 dM_readsWorm_15 (by decide) ?_ ?_
  · refine xR_aln 20 0 dM_readsWorm_20 rfl rfl ?_
    refine xR_getf 21 xcf7 0 85 (by decide) (by decide) rfl (v := .ref (xa G 86)) rfl fl_RX9_7 dM_readsWorm_21 ?_
    refine xR_sp 24 (1310 : Int32) dM_readsWorm_24 (by decide) ?_
    refine xR_aln 27 0 dM_readsWorm_27 rfl rfl ?_
    refine xR_getf 28 xcf7 9 85 (by decide) (by decide) rfl (v := .int (r12.2.1 6 3)) rfl fl_RX9_114 dM_readsWorm_28 ?_
    refine xR_iadd 31 dM_readsWorm_31 ?_
    refine xR_ic 32 (1 : Int32) dM_readsWorm_32 (by decide) ?_
    refine xR_iast 33 86 (by decide) rfl (z, (xset r12.2 0 ((1310 : Int32) + (r12.2.1 6 3)).toNatClampNeg (1 : Int32))) xW_m0 dM_readsWorm_33 ?_
    refine xR_ic 34 (1 : Int32) dM_readsWorm_34 (by decide) ?_
    exact xR_zret 35 rfl rfl dM_readsWorm_35
  · refine xR_ic 18 (0 : Int32) dM_readsWorm_18 (by decide) ?_
    exact xR_zret 19 rfl rfl dM_readsWorm_19
theorem dM_passes_0 : decode (xb yyM_passes) 0 = .ok (.iconst 0, 1) := by decide +kernel
theorem dM_passes_1 : decode (xb yyM_passes) 1 = .ok (.istore_n 2, 1) := by decide +kernel
theorem dM_passes_2 : decode (xb yyM_passes) 2 = .ok (.iconst 0, 1) := by decide +kernel
theorem dM_passes_3 : decode (xb yyM_passes) 3 = .ok (.istore_n 3, 1) := by decide +kernel
theorem dM_passes_4 : decode (xb yyM_passes) 4 = .ok (.iload_n 3, 1) := by decide +kernel
theorem dM_passes_5 : decode (xb yyM_passes) 5 = .ok (.aload_n 0, 1) := by decide +kernel
theorem dM_passes_6 : decode (xb yyM_passes) 6 = .ok (.getfield 7, 3) := by decide +kernel
theorem dM_passes_9 : decode (xb yyM_passes) 9 = .ok (.iload_n 1, 1) := by decide +kernel
theorem dM_passes_10 : decode (xb yyM_passes) 10 = .ok (.iconst 0, 1) := by decide +kernel
theorem dM_passes_11 : decode (xb yyM_passes) 11 = .ok (.iadd, 1) := by decide +kernel
theorem dM_passes_12 : decode (xb yyM_passes) 12 = .ok (.iaload, 1) := by decide +kernel
theorem dM_passes_13 : decode (xb yyM_passes) 13 = .ok (.if_icmp .ge 297, 3) := by decide +kernel
theorem dM_passes_16 : decode (xb yyM_passes) 16 = .ok (.aload_n 0, 1) := by decide +kernel
theorem dM_passes_17 : decode (xb yyM_passes) 17 = .ok (.getfield 7, 3) := by decide +kernel
theorem dM_passes_20 : decode (xb yyM_passes) 20 = .ok (.iload_n 1, 1) := by decide +kernel
theorem dM_passes_21 : decode (xb yyM_passes) 21 = .ok (.bipush 38, 2) := by decide +kernel
theorem dM_passes_23 : decode (xb yyM_passes) 23 = .ok (.iadd, 1) := by decide +kernel
theorem dM_passes_24 : decode (xb yyM_passes) 24 = .ok (.iload_n 3, 1) := by decide +kernel
theorem dM_passes_25 : decode (xb yyM_passes) 25 = .ok (.iadd, 1) := by decide +kernel
theorem dM_passes_26 : decode (xb yyM_passes) 26 = .ok (.iaload, 1) := by decide +kernel
theorem dM_passes_27 : decode (xb yyM_passes) 27 = .ok (.iconst (-1), 1) := by decide +kernel
theorem dM_passes_28 : decode (xb yyM_passes) 28 = .ok (.if_icmp .ne 37, 3) := by decide +kernel
theorem dM_passes_31 : decode (xb yyM_passes) 31 = .ok (.aload_n 0, 1) := by decide +kernel
theorem dM_passes_32 : decode (xb yyM_passes) 32 = .ok (.getfield 7, 3) := by decide +kernel
theorem dM_passes_35 : decode (xb yyM_passes) 35 = .ok (.iload_n 1, 1) := by decide +kernel
theorem dM_passes_36 : decode (xb yyM_passes) 36 = .ok (.bipush 20, 2) := by decide +kernel
theorem dM_passes_38 : decode (xb yyM_passes) 38 = .ok (.iadd, 1) := by decide +kernel
theorem dM_passes_39 : decode (xb yyM_passes) 39 = .ok (.iload_n 3, 1) := by decide +kernel
theorem dM_passes_40 : decode (xb yyM_passes) 40 = .ok (.iadd, 1) := by decide +kernel
theorem dM_passes_41 : decode (xb yyM_passes) 41 = .ok (.iaload, 1) := by decide +kernel
theorem dM_passes_42 : decode (xb yyM_passes) 42 = .ok (.aload_n 0, 1) := by decide +kernel
theorem dM_passes_43 : decode (xb yyM_passes) 43 = .ok (.getfield 7, 3) := by decide +kernel
theorem dM_passes_46 : decode (xb yyM_passes) 46 = .ok (.iload_n 1, 1) := by decide +kernel
theorem dM_passes_47 : decode (xb yyM_passes) 47 = .ok (.iconst 3, 1) := by decide +kernel
theorem dM_passes_48 : decode (xb yyM_passes) 48 = .ok (.iadd, 1) := by decide +kernel
theorem dM_passes_49 : decode (xb yyM_passes) 49 = .ok (.aload_n 0, 1) := by decide +kernel
theorem dM_passes_50 : decode (xb yyM_passes) 50 = .ok (.getfield 7, 3) := by decide +kernel
theorem dM_passes_53 : decode (xb yyM_passes) 53 = .ok (.iload_n 1, 1) := by decide +kernel
theorem dM_passes_54 : decode (xb yyM_passes) 54 = .ok (.iconst 2, 1) := by decide +kernel
theorem dM_passes_55 : decode (xb yyM_passes) 55 = .ok (.iadd, 1) := by decide +kernel
theorem dM_passes_56 : decode (xb yyM_passes) 56 = .ok (.iaload, 1) := by decide +kernel
theorem dM_passes_57 : decode (xb yyM_passes) 57 = .ok (.iconst 5, 1) := by decide +kernel
theorem dM_passes_58 : decode (xb yyM_passes) 58 = .ok (.irem, 1) := by decide +kernel
theorem dM_passes_59 : decode (xb yyM_passes) 59 = .ok (.iadd, 1) := by decide +kernel
theorem dM_passes_60 : decode (xb yyM_passes) 60 = .ok (.iaload, 1) := by decide +kernel
theorem dM_passes_61 : decode (xb yyM_passes) 61 = .ok (.iadd, 1) := by decide +kernel
theorem dM_passes_62 : decode (xb yyM_passes) 62 = .ok (.goto 16, 3) := by decide +kernel
theorem dM_passes_65 : decode (xb yyM_passes) 65 = .ok (.aload_n 0, 1) := by decide +kernel
theorem dM_passes_66 : decode (xb yyM_passes) 66 = .ok (.getfield 7, 3) := by decide +kernel
theorem dM_passes_69 : decode (xb yyM_passes) 69 = .ok (.iload_n 1, 1) := by decide +kernel
theorem dM_passes_70 : decode (xb yyM_passes) 70 = .ok (.bipush 20, 2) := by decide +kernel
theorem dM_passes_72 : decode (xb yyM_passes) 72 = .ok (.iadd, 1) := by decide +kernel
theorem dM_passes_73 : decode (xb yyM_passes) 73 = .ok (.iload_n 3, 1) := by decide +kernel
theorem dM_passes_74 : decode (xb yyM_passes) 74 = .ok (.iadd, 1) := by decide +kernel
theorem dM_passes_75 : decode (xb yyM_passes) 75 = .ok (.iaload, 1) := by decide +kernel
theorem dM_passes_76 : decode (xb yyM_passes) 76 = .ok (.iconst 1, 1) := by decide +kernel
theorem dM_passes_77 : decode (xb yyM_passes) 77 = .ok (.isub, 1) := by decide +kernel
theorem dM_passes_78 : decode (xb yyM_passes) 78 = .ok (.istore 4, 2) := by decide +kernel
theorem dM_passes_80 : decode (xb yyM_passes) 80 = .ok (.aload_n 0, 1) := by decide +kernel
theorem dM_passes_81 : decode (xb yyM_passes) 81 = .ok (.getfield 7, 3) := by decide +kernel
theorem dM_passes_84 : decode (xb yyM_passes) 84 = .ok (.iload_n 1, 1) := by decide +kernel
theorem dM_passes_85 : decode (xb yyM_passes) 85 = .ok (.bipush 20, 2) := by decide +kernel
theorem dM_passes_87 : decode (xb yyM_passes) 87 = .ok (.iadd, 1) := by decide +kernel
theorem dM_passes_88 : decode (xb yyM_passes) 88 = .ok (.iload_n 3, 1) := by decide +kernel
theorem dM_passes_89 : decode (xb yyM_passes) 89 = .ok (.iadd, 1) := by decide +kernel
theorem dM_passes_90 : decode (xb yyM_passes) 90 = .ok (.iload 4, 2) := by decide +kernel
theorem dM_passes_92 : decode (xb yyM_passes) 92 = .ok (.bipush 9, 2) := by decide +kernel
theorem dM_passes_94 : decode (xb yyM_passes) 94 = .ok (.if_icmp .le 8, 3) := by decide +kernel
theorem dM_passes_97 : decode (xb yyM_passes) 97 = .ok (.bipush 9, 2) := by decide +kernel
theorem dM_passes_99 : decode (xb yyM_passes) 99 = .ok (.goto 14, 3) := by decide +kernel
theorem dM_passes_102 : decode (xb yyM_passes) 102 = .ok (.iload 4, 2) := by decide +kernel
theorem dM_passes_104 : decode (xb yyM_passes) 104 = .ok (.ifCond .ge 7, 3) := by decide +kernel
theorem dM_passes_107 : decode (xb yyM_passes) 107 = .ok (.iconst 0, 1) := by decide +kernel
theorem dM_passes_108 : decode (xb yyM_passes) 108 = .ok (.goto 5, 3) := by decide +kernel
theorem dM_passes_111 : decode (xb yyM_passes) 111 = .ok (.iload 4, 2) := by decide +kernel
theorem dM_passes_113 : decode (xb yyM_passes) 113 = .ok (.iastore, 1) := by decide +kernel
theorem dM_passes_114 : decode (xb yyM_passes) 114 = .ok (.aload_n 0, 1) := by decide +kernel
theorem dM_passes_115 : decode (xb yyM_passes) 115 = .ok (.getfield 7, 3) := by decide +kernel
theorem dM_passes_118 : decode (xb yyM_passes) 118 = .ok (.iload_n 1, 1) := by decide +kernel
theorem dM_passes_119 : decode (xb yyM_passes) 119 = .ok (.bipush 14, 2) := by decide +kernel
theorem dM_passes_121 : decode (xb yyM_passes) 121 = .ok (.iadd, 1) := by decide +kernel
theorem dM_passes_122 : decode (xb yyM_passes) 122 = .ok (.iload_n 3, 1) := by decide +kernel
theorem dM_passes_123 : decode (xb yyM_passes) 123 = .ok (.iadd, 1) := by decide +kernel
theorem dM_passes_124 : decode (xb yyM_passes) 124 = .ok (.dup2, 1) := by decide +kernel
theorem dM_passes_125 : decode (xb yyM_passes) 125 = .ok (.iaload, 1) := by decide +kernel
theorem dM_passes_126 : decode (xb yyM_passes) 126 = .ok (.aload_n 0, 1) := by decide +kernel
theorem dM_passes_127 : decode (xb yyM_passes) 127 = .ok (.getfield 7, 3) := by decide +kernel
theorem dM_passes_130 : decode (xb yyM_passes) 130 = .ok (.iload_n 1, 1) := by decide +kernel
theorem dM_passes_131 : decode (xb yyM_passes) 131 = .ok (.bipush 14, 2) := by decide +kernel
theorem dM_passes_133 : decode (xb yyM_passes) 133 = .ok (.iadd, 1) := by decide +kernel
theorem dM_passes_134 : decode (xb yyM_passes) 134 = .ok (.iload_n 3, 1) := by decide +kernel
theorem dM_passes_135 : decode (xb yyM_passes) 135 = .ok (.iadd, 1) := by decide +kernel
theorem dM_passes_136 : decode (xb yyM_passes) 136 = .ok (.iaload, 1) := by decide +kernel
theorem dM_passes_137 : decode (xb yyM_passes) 137 = .ok (.bipush 99, 2) := by decide +kernel
theorem dM_passes_139 : decode (xb yyM_passes) 139 = .ok (.if_icmp .ge 7, 3) := by decide +kernel
theorem dM_passes_142 : decode (xb yyM_passes) 142 = .ok (.iconst 1, 1) := by decide +kernel
theorem dM_passes_143 : decode (xb yyM_passes) 143 = .ok (.goto 4, 3) := by decide +kernel
theorem dM_passes_146 : decode (xb yyM_passes) 146 = .ok (.iconst 0, 1) := by decide +kernel
theorem dM_passes_147 : decode (xb yyM_passes) 147 = .ok (.iadd, 1) := by decide +kernel
theorem dM_passes_148 : decode (xb yyM_passes) 148 = .ok (.iastore, 1) := by decide +kernel
theorem dM_passes_149 : decode (xb yyM_passes) 149 = .ok (.iload_n 3, 1) := by decide +kernel
theorem dM_passes_150 : decode (xb yyM_passes) 150 = .ok (.ifCond .le 51, 3) := by decide +kernel
theorem dM_passes_153 : decode (xb yyM_passes) 153 = .ok (.aload_n 0, 1) := by decide +kernel
theorem dM_passes_154 : decode (xb yyM_passes) 154 = .ok (.getfield 7, 3) := by decide +kernel
theorem dM_passes_157 : decode (xb yyM_passes) 157 = .ok (.iload_n 1, 1) := by decide +kernel
theorem dM_passes_158 : decode (xb yyM_passes) 158 = .ok (.bipush 32, 2) := by decide +kernel
theorem dM_passes_160 : decode (xb yyM_passes) 160 = .ok (.iadd, 1) := by decide +kernel
theorem dM_passes_161 : decode (xb yyM_passes) 161 = .ok (.iload_n 3, 1) := by decide +kernel
theorem dM_passes_162 : decode (xb yyM_passes) 162 = .ok (.iadd, 1) := by decide +kernel
theorem dM_passes_163 : decode (xb yyM_passes) 163 = .ok (.iconst 1, 1) := by decide +kernel
theorem dM_passes_164 : decode (xb yyM_passes) 164 = .ok (.isub, 1) := by decide +kernel
theorem dM_passes_165 : decode (xb yyM_passes) 165 = .ok (.iaload, 1) := by decide +kernel
theorem dM_passes_166 : decode (xb yyM_passes) 166 = .ok (.iconst 1, 1) := by decide +kernel
theorem dM_passes_167 : decode (xb yyM_passes) 167 = .ok (.if_icmp .ne 34, 3) := by decide +kernel
theorem dM_passes_170 : decode (xb yyM_passes) 170 = .ok (.aload_n 0, 1) := by decide +kernel
theorem dM_passes_171 : decode (xb yyM_passes) 171 = .ok (.getfield 7, 3) := by decide +kernel
theorem dM_passes_174 : decode (xb yyM_passes) 174 = .ok (.iload_n 1, 1) := by decide +kernel
theorem dM_passes_175 : decode (xb yyM_passes) 175 = .ok (.bipush 38, 2) := by decide +kernel
theorem dM_passes_177 : decode (xb yyM_passes) 177 = .ok (.iadd, 1) := by decide +kernel
theorem dM_passes_178 : decode (xb yyM_passes) 178 = .ok (.iload_n 3, 1) := by decide +kernel
theorem dM_passes_179 : decode (xb yyM_passes) 179 = .ok (.iadd, 1) := by decide +kernel
theorem dM_passes_180 : decode (xb yyM_passes) 180 = .ok (.iconst 1, 1) := by decide +kernel
theorem dM_passes_181 : decode (xb yyM_passes) 181 = .ok (.isub, 1) := by decide +kernel
theorem dM_passes_182 : decode (xb yyM_passes) 182 = .ok (.iaload, 1) := by decide +kernel
theorem dM_passes_183 : decode (xb yyM_passes) 183 = .ok (.aload_n 0, 1) := by decide +kernel
theorem dM_passes_184 : decode (xb yyM_passes) 184 = .ok (.getfield 7, 3) := by decide +kernel
theorem dM_passes_187 : decode (xb yyM_passes) 187 = .ok (.iload_n 1, 1) := by decide +kernel
theorem dM_passes_188 : decode (xb yyM_passes) 188 = .ok (.bipush 38, 2) := by decide +kernel
theorem dM_passes_190 : decode (xb yyM_passes) 190 = .ok (.iadd, 1) := by decide +kernel
theorem dM_passes_191 : decode (xb yyM_passes) 191 = .ok (.iload_n 3, 1) := by decide +kernel
theorem dM_passes_192 : decode (xb yyM_passes) 192 = .ok (.iadd, 1) := by decide +kernel
theorem dM_passes_193 : decode (xb yyM_passes) 193 = .ok (.iaload, 1) := by decide +kernel
theorem dM_passes_194 : decode (xb yyM_passes) 194 = .ok (.if_icmp .ne 7, 3) := by decide +kernel
theorem dM_passes_197 : decode (xb yyM_passes) 197 = .ok (.iconst 1, 1) := by decide +kernel
theorem dM_passes_198 : decode (xb yyM_passes) 198 = .ok (.goto 4, 3) := by decide +kernel
theorem dM_passes_201 : decode (xb yyM_passes) 201 = .ok (.iconst 0, 1) := by decide +kernel
theorem dM_passes_202 : decode (xb yyM_passes) 202 = .ok (.istore 5, 2) := by decide +kernel
theorem dM_passes_204 : decode (xb yyM_passes) 204 = .ok (.iload_n 3, 1) := by decide +kernel
theorem dM_passes_205 : decode (xb yyM_passes) 205 = .ok (.iconst 1, 1) := by decide +kernel
theorem dM_passes_206 : decode (xb yyM_passes) 206 = .ok (.iadd, 1) := by decide +kernel
theorem dM_passes_207 : decode (xb yyM_passes) 207 = .ok (.aload_n 0, 1) := by decide +kernel
theorem dM_passes_208 : decode (xb yyM_passes) 208 = .ok (.getfield 7, 3) := by decide +kernel
theorem dM_passes_211 : decode (xb yyM_passes) 211 = .ok (.iload_n 1, 1) := by decide +kernel
theorem dM_passes_212 : decode (xb yyM_passes) 212 = .ok (.iconst 0, 1) := by decide +kernel
theorem dM_passes_213 : decode (xb yyM_passes) 213 = .ok (.iadd, 1) := by decide +kernel
theorem dM_passes_214 : decode (xb yyM_passes) 214 = .ok (.iaload, 1) := by decide +kernel
theorem dM_passes_215 : decode (xb yyM_passes) 215 = .ok (.if_icmp .ge 51, 3) := by decide +kernel
theorem dM_passes_218 : decode (xb yyM_passes) 218 = .ok (.aload_n 0, 1) := by decide +kernel
theorem dM_passes_219 : decode (xb yyM_passes) 219 = .ok (.getfield 7, 3) := by decide +kernel
theorem dM_passes_222 : decode (xb yyM_passes) 222 = .ok (.iload_n 1, 1) := by decide +kernel
theorem dM_passes_223 : decode (xb yyM_passes) 223 = .ok (.bipush 32, 2) := by decide +kernel
theorem dM_passes_225 : decode (xb yyM_passes) 225 = .ok (.iadd, 1) := by decide +kernel
theorem dM_passes_226 : decode (xb yyM_passes) 226 = .ok (.iload_n 3, 1) := by decide +kernel
theorem dM_passes_227 : decode (xb yyM_passes) 227 = .ok (.iadd, 1) := by decide +kernel
theorem dM_passes_228 : decode (xb yyM_passes) 228 = .ok (.iconst 1, 1) := by decide +kernel
theorem dM_passes_229 : decode (xb yyM_passes) 229 = .ok (.iadd, 1) := by decide +kernel
theorem dM_passes_230 : decode (xb yyM_passes) 230 = .ok (.iaload, 1) := by decide +kernel
theorem dM_passes_231 : decode (xb yyM_passes) 231 = .ok (.iconst 1, 1) := by decide +kernel
theorem dM_passes_232 : decode (xb yyM_passes) 232 = .ok (.if_icmp .ne 34, 3) := by decide +kernel
theorem dM_passes_235 : decode (xb yyM_passes) 235 = .ok (.aload_n 0, 1) := by decide +kernel
theorem dM_passes_236 : decode (xb yyM_passes) 236 = .ok (.getfield 7, 3) := by decide +kernel
theorem dM_passes_239 : decode (xb yyM_passes) 239 = .ok (.iload_n 1, 1) := by decide +kernel
theorem dM_passes_240 : decode (xb yyM_passes) 240 = .ok (.bipush 38, 2) := by decide +kernel
theorem dM_passes_242 : decode (xb yyM_passes) 242 = .ok (.iadd, 1) := by decide +kernel
theorem dM_passes_243 : decode (xb yyM_passes) 243 = .ok (.iload_n 3, 1) := by decide +kernel
theorem dM_passes_244 : decode (xb yyM_passes) 244 = .ok (.iadd, 1) := by decide +kernel
theorem dM_passes_245 : decode (xb yyM_passes) 245 = .ok (.iconst 1, 1) := by decide +kernel
theorem dM_passes_246 : decode (xb yyM_passes) 246 = .ok (.iadd, 1) := by decide +kernel
theorem dM_passes_247 : decode (xb yyM_passes) 247 = .ok (.iaload, 1) := by decide +kernel
theorem dM_passes_248 : decode (xb yyM_passes) 248 = .ok (.aload_n 0, 1) := by decide +kernel
theorem dM_passes_249 : decode (xb yyM_passes) 249 = .ok (.getfield 7, 3) := by decide +kernel
theorem dM_passes_252 : decode (xb yyM_passes) 252 = .ok (.iload_n 1, 1) := by decide +kernel
theorem dM_passes_253 : decode (xb yyM_passes) 253 = .ok (.bipush 38, 2) := by decide +kernel
theorem dM_passes_255 : decode (xb yyM_passes) 255 = .ok (.iadd, 1) := by decide +kernel
theorem dM_passes_256 : decode (xb yyM_passes) 256 = .ok (.iload_n 3, 1) := by decide +kernel
theorem dM_passes_257 : decode (xb yyM_passes) 257 = .ok (.iadd, 1) := by decide +kernel
theorem dM_passes_258 : decode (xb yyM_passes) 258 = .ok (.iaload, 1) := by decide +kernel
theorem dM_passes_259 : decode (xb yyM_passes) 259 = .ok (.if_icmp .ne 7, 3) := by decide +kernel
theorem dM_passes_262 : decode (xb yyM_passes) 262 = .ok (.iconst 1, 1) := by decide +kernel
theorem dM_passes_263 : decode (xb yyM_passes) 263 = .ok (.goto 4, 3) := by decide +kernel
theorem dM_passes_266 : decode (xb yyM_passes) 266 = .ok (.iconst 0, 1) := by decide +kernel
theorem dM_passes_267 : decode (xb yyM_passes) 267 = .ok (.istore 6, 2) := by decide +kernel
theorem dM_passes_269 : decode (xb yyM_passes) 269 = .ok (.iload_n 2, 1) := by decide +kernel
theorem dM_passes_270 : decode (xb yyM_passes) 270 = .ok (.iload 5, 2) := by decide +kernel
theorem dM_passes_272 : decode (xb yyM_passes) 272 = .ok (.ifCond .ne 23, 3) := by decide +kernel
theorem dM_passes_275 : decode (xb yyM_passes) 275 = .ok (.iload 6, 2) := by decide +kernel
theorem dM_passes_277 : decode (xb yyM_passes) 277 = .ok (.ifCond .ne 18, 3) := by decide +kernel
theorem dM_passes_280 : decode (xb yyM_passes) 280 = .ok (.aload_n 0, 1) := by decide +kernel
theorem dM_passes_281 : decode (xb yyM_passes) 281 = .ok (.getfield 7, 3) := by decide +kernel
theorem dM_passes_284 : decode (xb yyM_passes) 284 = .ok (.iload_n 1, 1) := by decide +kernel
theorem dM_passes_285 : decode (xb yyM_passes) 285 = .ok (.bipush 32, 2) := by decide +kernel
theorem dM_passes_287 : decode (xb yyM_passes) 287 = .ok (.iadd, 1) := by decide +kernel
theorem dM_passes_288 : decode (xb yyM_passes) 288 = .ok (.iload_n 3, 1) := by decide +kernel
theorem dM_passes_289 : decode (xb yyM_passes) 289 = .ok (.iadd, 1) := by decide +kernel
theorem dM_passes_290 : decode (xb yyM_passes) 290 = .ok (.iaload, 1) := by decide +kernel
theorem dM_passes_291 : decode (xb yyM_passes) 291 = .ok (.iconst 1, 1) := by decide +kernel
theorem dM_passes_292 : decode (xb yyM_passes) 292 = .ok (.if_icmp .ne 9, 3) := by decide +kernel
theorem dM_passes_295 : decode (xb yyM_passes) 295 = .ok (.iconst 1, 1) := by decide +kernel
theorem dM_passes_296 : decode (xb yyM_passes) 296 = .ok (.iload_n 3, 1) := by decide +kernel
theorem dM_passes_297 : decode (xb yyM_passes) 297 = .ok (.ishl, 1) := by decide +kernel
theorem dM_passes_298 : decode (xb yyM_passes) 298 = .ok (.goto 4, 3) := by decide +kernel
theorem dM_passes_301 : decode (xb yyM_passes) 301 = .ok (.iconst 0, 1) := by decide +kernel
theorem dM_passes_302 : decode (xb yyM_passes) 302 = .ok (.ior, 1) := by decide +kernel
theorem dM_passes_303 : decode (xb yyM_passes) 303 = .ok (.istore_n 2, 1) := by decide +kernel
theorem dM_passes_304 : decode (xb yyM_passes) 304 = .ok (.iinc 3 1, 3) := by decide +kernel
theorem dM_passes_307 : decode (xb yyM_passes) 307 = .ok (.goto (-303), 3) := by decide +kernel
theorem dM_passes_310 : decode (xb yyM_passes) 310 = .ok (.iconst 0, 1) := by decide +kernel
theorem dM_passes_311 : decode (xb yyM_passes) 311 = .ok (.istore_n 3, 1) := by decide +kernel
theorem dM_passes_312 : decode (xb yyM_passes) 312 = .ok (.iload_n 3, 1) := by decide +kernel
theorem dM_passes_313 : decode (xb yyM_passes) 313 = .ok (.aload_n 0, 1) := by decide +kernel
theorem dM_passes_314 : decode (xb yyM_passes) 314 = .ok (.getfield 7, 3) := by decide +kernel
theorem dM_passes_317 : decode (xb yyM_passes) 317 = .ok (.iload_n 1, 1) := by decide +kernel
theorem dM_passes_318 : decode (xb yyM_passes) 318 = .ok (.iconst 0, 1) := by decide +kernel
theorem dM_passes_319 : decode (xb yyM_passes) 319 = .ok (.iadd, 1) := by decide +kernel
theorem dM_passes_320 : decode (xb yyM_passes) 320 = .ok (.iaload, 1) := by decide +kernel
theorem dM_passes_321 : decode (xb yyM_passes) 321 = .ok (.if_icmp .ge 25, 3) := by decide +kernel
theorem dM_passes_324 : decode (xb yyM_passes) 324 = .ok (.aload_n 0, 1) := by decide +kernel
theorem dM_passes_325 : decode (xb yyM_passes) 325 = .ok (.getfield 7, 3) := by decide +kernel
theorem dM_passes_328 : decode (xb yyM_passes) 328 = .ok (.iload_n 1, 1) := by decide +kernel
theorem dM_passes_329 : decode (xb yyM_passes) 329 = .ok (.bipush 32, 2) := by decide +kernel
theorem dM_passes_331 : decode (xb yyM_passes) 331 = .ok (.iadd, 1) := by decide +kernel
theorem dM_passes_332 : decode (xb yyM_passes) 332 = .ok (.iload_n 3, 1) := by decide +kernel
theorem dM_passes_333 : decode (xb yyM_passes) 333 = .ok (.iadd, 1) := by decide +kernel
theorem dM_passes_334 : decode (xb yyM_passes) 334 = .ok (.iload_n 2, 1) := by decide +kernel
theorem dM_passes_335 : decode (xb yyM_passes) 335 = .ok (.iload_n 3, 1) := by decide +kernel
theorem dM_passes_336 : decode (xb yyM_passes) 336 = .ok (.ishr, 1) := by decide +kernel
theorem dM_passes_337 : decode (xb yyM_passes) 337 = .ok (.iconst 1, 1) := by decide +kernel
theorem dM_passes_338 : decode (xb yyM_passes) 338 = .ok (.iand, 1) := by decide +kernel
theorem dM_passes_339 : decode (xb yyM_passes) 339 = .ok (.iastore, 1) := by decide +kernel
theorem dM_passes_340 : decode (xb yyM_passes) 340 = .ok (.iinc 3 1, 3) := by decide +kernel
theorem dM_passes_343 : decode (xb yyM_passes) 343 = .ok (.goto (-31), 3) := by decide +kernel
theorem dM_passes_346 : decode (xb yyM_passes) 346 = .ok (.aload_n 0, 1) := by decide +kernel
theorem dM_passes_347 : decode (xb yyM_passes) 347 = .ok (.getfield 7, 3) := by decide +kernel
theorem dM_passes_350 : decode (xb yyM_passes) 350 = .ok (.iload_n 1, 1) := by decide +kernel
theorem dM_passes_351 : decode (xb yyM_passes) 351 = .ok (.iconst 2, 1) := by decide +kernel
theorem dM_passes_352 : decode (xb yyM_passes) 352 = .ok (.iadd, 1) := by decide +kernel
theorem dM_passes_353 : decode (xb yyM_passes) 353 = .ok (.dup2, 1) := by decide +kernel
theorem dM_passes_354 : decode (xb yyM_passes) 354 = .ok (.iaload, 1) := by decide +kernel
theorem dM_passes_355 : decode (xb yyM_passes) 355 = .ok (.iconst 1, 1) := by decide +kernel
theorem dM_passes_356 : decode (xb yyM_passes) 356 = .ok (.iadd, 1) := by decide +kernel
theorem dM_passes_357 : decode (xb yyM_passes) 357 = .ok (.iastore, 1) := by decide +kernel
theorem dM_passes_358 : decode (xb yyM_passes) 358 = .ok (.return_, 1) := by decide +kernel
def fM_passes_l312  : Nat → Int32 → Int32 → Int32 → xM → Option (xM)
  | 0, _, _, _, _ => none
  | n + 1, v1, v2, v3, m => xck 1752 (v1 + (0 : Int32)) ((if (m.1 0 (v1 + (0 : Int32)).toNatClampNeg) ≤ v3 then xck 1752 (v1 + (2 : Int32)) (xck 1752 (v1 + (2 : Int32)) (some (xset m 0 (v1 + (2 : Int32)).toNatClampNeg ((m.1 0 (v1 + (2 : Int32)).toNatClampNeg) + (1 : Int32))))) else xck 1752 ((v1 + (32 : Int32)) + v3) (fM_passes_l312 n v1 v2 (v3 + 1) (xset m 0 ((v1 + (32 : Int32)) + v3).toNatClampNeg ((v2 >>> (v3 &&& 31)) &&& (1 : Int32))))))
def fM_passes_b302 (k4 : Int32 → Int32 → Int32 → xM → Option (xM)) (v1 : Int32) (v3 : Int32) (s0 : Int32) (s1 : Int32) (m : xM) : Option (xM) := k4 v1 (s1 ||| s0) (v3 + 1) m
def fM_passes_b295 (k4 : Int32 → Int32 → Int32 → xM → Option (xM)) (v1 : Int32) (v3 : Int32) (s0 : Int32) (m : xM) : Option (xM) := fM_passes_b302 k4 v1 v3 ((1 : Int32) <<< (v3 &&& 31)) s0 m
def fM_passes_b267 (k4 : Int32 → Int32 → Int32 → xM → Option (xM)) (v1 : Int32) (v2 : Int32) (v3 : Int32) (v5 : Int32) (s0 : Int32) (m : xM) : Option (xM) := (if v5 = 0 then (if s0 = 0 then xck 1752 ((v1 + (32 : Int32)) + v3) ((if (m.1 0 ((v1 + (32 : Int32)) + v3).toNatClampNeg) = (1 : Int32) then fM_passes_b295 k4 v1 v3 v2 m else fM_passes_b302 k4 v1 v3 (0 : Int32) v2 m)) else fM_passes_b295 k4 v1 v3 v2 m) else fM_passes_b295 k4 v1 v3 v2 m)
def fM_passes_b266 (k4 : Int32 → Int32 → Int32 → xM → Option (xM)) (v1 : Int32) (v2 : Int32) (v3 : Int32) (v5 : Int32) (m : xM) : Option (xM) := fM_passes_b267 k4 v1 v2 v3 v5 (0 : Int32) m
def fM_passes_b202 (k4 : Int32 → Int32 → Int32 → xM → Option (xM)) (v1 : Int32) (v2 : Int32) (v3 : Int32) (s0 : Int32) (m : xM) : Option (xM) := xck 1752 (v1 + (0 : Int32)) ((if (m.1 0 (v1 + (0 : Int32)).toNatClampNeg) ≤ (v3 + (1 : Int32)) then fM_passes_b266 k4 v1 v2 v3 s0 m else xck 1752 (((v1 + (32 : Int32)) + v3) + (1 : Int32)) ((if (m.1 0 (((v1 + (32 : Int32)) + v3) + (1 : Int32)).toNatClampNeg) = (1 : Int32) then xck 1752 (((v1 + (38 : Int32)) + v3) + (1 : Int32)) (xck 1752 ((v1 + (38 : Int32)) + v3) ((if (m.1 0 (((v1 + (38 : Int32)) + v3) + (1 : Int32)).toNatClampNeg) = (m.1 0 ((v1 + (38 : Int32)) + v3).toNatClampNeg) then fM_passes_b267 k4 v1 v2 v3 s0 (1 : Int32) m else fM_passes_b266 k4 v1 v2 v3 s0 m))) else fM_passes_b266 k4 v1 v2 v3 s0 m))))
def fM_passes_b201 (k4 : Int32 → Int32 → Int32 → xM → Option (xM)) (v1 : Int32) (v2 : Int32) (v3 : Int32) (m : xM) : Option (xM) := fM_passes_b202 k4 v1 v2 v3 (0 : Int32) m
def fM_passes_b147 (k4 : Int32 → Int32 → Int32 → xM → Option (xM)) (v1 : Int32) (v2 : Int32) (v3 : Int32) (s0 : Int32) (s1 : Int32) (s2 : Int32) (m : xM) : Option (xM) := xck 1752 s2 ((if v3 ≤ 0 then fM_passes_b201 k4 v1 v2 v3 (xset m 0 s2.toNatClampNeg (s1 + s0)) else xck 1752 (((v1 + (32 : Int32)) + v3) - (1 : Int32)) ((if ((xset m 0 s2.toNatClampNeg (s1 + s0)).1 0 (((v1 + (32 : Int32)) + v3) - (1 : Int32)).toNatClampNeg) = (1 : Int32) then xck 1752 (((v1 + (38 : Int32)) + v3) - (1 : Int32)) (xck 1752 ((v1 + (38 : Int32)) + v3) ((if ((xset m 0 s2.toNatClampNeg (s1 + s0)).1 0 (((v1 + (38 : Int32)) + v3) - (1 : Int32)).toNatClampNeg) = ((xset m 0 s2.toNatClampNeg (s1 + s0)).1 0 ((v1 + (38 : Int32)) + v3).toNatClampNeg) then fM_passes_b202 k4 v1 v2 v3 (1 : Int32) (xset m 0 s2.toNatClampNeg (s1 + s0)) else fM_passes_b201 k4 v1 v2 v3 (xset m 0 s2.toNatClampNeg (s1 + s0))))) else fM_passes_b201 k4 v1 v2 v3 (xset m 0 s2.toNatClampNeg (s1 + s0))))))
def fM_passes_b113 (k4 : Int32 → Int32 → Int32 → xM → Option (xM)) (v1 : Int32) (v2 : Int32) (v3 : Int32) (s0 : Int32) (s1 : Int32) (m : xM) : Option (xM) := xck 1752 s1 (xck 1752 ((v1 + (14 : Int32)) + v3) (xck 1752 ((v1 + (14 : Int32)) + v3) ((if (99 : Int32) ≤ ((xset m 0 s1.toNatClampNeg s0).1 0 ((v1 + (14 : Int32)) + v3).toNatClampNeg) then fM_passes_b147 k4 v1 v2 v3 (0 : Int32) ((xset m 0 s1.toNatClampNeg s0).1 0 ((v1 + (14 : Int32)) + v3).toNatClampNeg) ((v1 + (14 : Int32)) + v3) (xset m 0 s1.toNatClampNeg s0) else fM_passes_b147 k4 v1 v2 v3 (1 : Int32) ((xset m 0 s1.toNatClampNeg s0).1 0 ((v1 + (14 : Int32)) + v3).toNatClampNeg) ((v1 + (14 : Int32)) + v3) (xset m 0 s1.toNatClampNeg s0)))))
def fM_passes_b78 (k4 : Int32 → Int32 → Int32 → xM → Option (xM)) (v1 : Int32) (v2 : Int32) (v3 : Int32) (s0 : Int32) (m : xM) : Option (xM) := (if s0 ≤ (9 : Int32) then (if 0 ≤ s0 then fM_passes_b113 k4 v1 v2 v3 s0 ((v1 + (20 : Int32)) + v3) m else fM_passes_b113 k4 v1 v2 v3 (0 : Int32) ((v1 + (20 : Int32)) + v3) m) else fM_passes_b113 k4 v1 v2 v3 (9 : Int32) ((v1 + (20 : Int32)) + v3) m)
def fM_passes_l4  : Nat → Int32 → Int32 → Int32 → xM → Option (xM)
  | 0, _, _, _, _ => none
  | n + 1, v1, v2, v3, m => xck 1752 (v1 + (0 : Int32)) ((if (m.1 0 (v1 + (0 : Int32)).toNatClampNeg) ≤ v3 then fM_passes_l312 xfu v1 v2 (0 : Int32) m else xck 1752 ((v1 + (38 : Int32)) + v3) ((if (m.1 0 ((v1 + (38 : Int32)) + v3).toNatClampNeg) = (-1 : Int32) then xck 1752 ((v1 + (20 : Int32)) + v3) (xck 1752 (v1 + (2 : Int32)) (xck 1752 ((v1 + (3 : Int32)) + ((m.1 0 (v1 + (2 : Int32)).toNatClampNeg) - (m.1 0 (v1 + (2 : Int32)).toNatClampNeg) / (5 : Int32) * (5 : Int32))) (fM_passes_b78 (fM_passes_l4 n) v1 v2 v3 ((m.1 0 ((v1 + (20 : Int32)) + v3).toNatClampNeg) + (m.1 0 ((v1 + (3 : Int32)) + ((m.1 0 (v1 + (2 : Int32)).toNatClampNeg) - (m.1 0 (v1 + (2 : Int32)).toNatClampNeg) / (5 : Int32) * (5 : Int32))).toNatClampNeg)) m))) else xck 1752 ((v1 + (20 : Int32)) + v3) (fM_passes_b78 (fM_passes_l4 n) v1 v2 v3 ((m.1 0 ((v1 + (20 : Int32)) + v3).toNatClampNeg) - (1 : Int32)) m)))))
def fM_passes  (v1 : Int32) (m : xM) : Option (xM) := fM_passes_l4 xfu v1 (0 : Int32) (0 : Int32) m
set_option maxRecDepth 100000 in
set_option maxHeartbeats 4000000 in
theorem kM_passes_l312 (G : xG)   (z : xM)    : ∀ (n : Nat) (v1 : Int32) (v2 : Int32) (v3 : Int32) (m : xM), xR G yyM_passes (emvm z) 312 [(0, .ref (xa G 85)), (1, .int v1), (2, .int v2), (3, .int v3)] [] (z, m) (fM_passes_l312  n v1 v2 v3 m) := by
  intro n
  induction n with
  | zero =>
    intro v1 v2 v3 m
    rw [fM_passes_l312]
    exact xR_none
  | succ n ih =>
    intro v1 v2 v3 m
    rw [fM_passes_l312]
    refine xR_iln 312 3 dM_passes_312 rfl rfl ?_
    refine xR_aln 313 0 dM_passes_313 rfl rfl ?_
    refine xR_getf 314 xcf7 0 85 (by decide) (by decide) rfl (v := .ref (xa G 86)) rfl fl_RX9_7 dM_passes_314 ?_
    refine xR_iln 317 1 dM_passes_317 rfl rfl ?_
    refine xR_ic 318 (0 : Int32) dM_passes_318 (by decide) ?_
    refine xR_iadd 319 dM_passes_319 ?_
    refine xR_iald 320 86 (by decide) rfl dM_passes_320 ?_
    refine xR_icge 321 346 dM_passes_321 (by decide) ?_ ?_
    · refine xR_aln 346 0 dM_passes_346 rfl rfl ?_
      refine xR_getf 347 xcf7 0 85 (by decide) (by decide) rfl (v := .ref (xa G 86)) rfl fl_RX9_7 dM_passes_347 ?_
      refine xR_iln 350 1 dM_passes_350 rfl rfl ?_
      refine xR_ic 351 (2 : Int32) dM_passes_351 (by decide) ?_
      refine xR_iadd 352 dM_passes_352 ?_
      refine xR_dup2 353 dM_passes_353 rfl rfl ?_
      refine xR_iald 354 86 (by decide) rfl dM_passes_354 ?_
      refine xR_ic 355 (1 : Int32) dM_passes_355 (by decide) ?_
      refine xR_iadd 356 dM_passes_356 ?_
      refine xR_iast 357 86 (by decide) rfl (z, (xset m 0 (v1 + (2 : Int32)).toNatClampNeg ((m.1 0 (v1 + (2 : Int32)).toNatClampNeg) + (1 : Int32)))) xW_m0 dM_passes_357 ?_
      exact xR_vret 358 rfl rfl dM_passes_358
    · refine xR_aln 324 0 dM_passes_324 rfl rfl ?_
      refine xR_getf 325 xcf7 0 85 (by decide) (by decide) rfl (v := .ref (xa G 86)) rfl fl_RX9_7 dM_passes_325 ?_
      refine xR_iln 328 1 dM_passes_328 rfl rfl ?_
      refine xR_bp 329 (32 : Int32) dM_passes_329 (by decide) ?_
      refine xR_iadd 331 dM_passes_331 ?_
      refine xR_iln 332 3 dM_passes_332 rfl rfl ?_
      refine xR_iadd 333 dM_passes_333 ?_
      refine xR_iln 334 2 dM_passes_334 rfl rfl ?_
      refine xR_iln 335 3 dM_passes_335 rfl rfl ?_
      refine xR_ishr 336 dM_passes_336 ?_
      refine xR_ic 337 (1 : Int32) dM_passes_337 (by decide) ?_
      refine xR_iand 338 dM_passes_338 ?_
      refine xR_iast 339 86 (by decide) rfl (z, (xset m 0 ((v1 + (32 : Int32)) + v3).toNatClampNeg ((v2 >>> (v3 &&& 31)) &&& (1 : Int32)))) xW_m0 dM_passes_339 ?_
      refine xR_iinc 340 3 (v3 + 1) ([(3, .int (v3 + 1)), (0, .ref (xa G 85)), (1, .int v1), (2, .int v2)]) dM_passes_340 rfl rfl (by decide) rfl ?_
      refine xR_goto 343 312 dM_passes_343 (by decide) ?_
      exact xR_sub [1, 2, 3, 0] rfl (ih v1 v2 (v3 + 1) (xset m 0 ((v1 + (32 : Int32)) + v3).toNatClampNeg ((v2 >>> (v3 &&& 31)) &&& (1 : Int32))))
set_option maxRecDepth 100000 in
set_option maxHeartbeats 4000000 in
theorem kM_passes_b302 (G : xG)   (z : xM)  (k4 : Int32 → Int32 → Int32 → xM → Option (xM)) (hk4 : ∀ (v1 : Int32) (v2 : Int32) (v3 : Int32) (m : xM), xR G yyM_passes (emvm z) 4 [(0, .ref (xa G 85)), (1, .int v1), (2, .int v2), (3, .int v3)] [] (z, m) (k4 v1 v2 v3 m)) (v1 : Int32) (v3 : Int32) (s0 : Int32) (s1 : Int32) (m : xM) : xR G yyM_passes (emvm z) 302 [(0, .ref (xa G 85)), (1, .int v1), (3, .int v3)] [.int s0, .int s1] (z, m) (fM_passes_b302 k4 v1 v3 s0 s1 m) := by
  unfold fM_passes_b302
  refine xR_ior 302 dM_passes_302 ?_
  refine xR_isn 303 ([(2, .int (s1 ||| s0)), (0, .ref (xa G 85)), (1, .int v1), (3, .int v3)]) dM_passes_303 rfl (by decide) rfl ?_
  refine xR_iinc 304 3 (v3 + 1) ([(3, .int (v3 + 1)), (2, .int (s1 ||| s0)), (0, .ref (xa G 85)), (1, .int v1)]) dM_passes_304 rfl rfl (by decide) rfl ?_
  refine xR_goto 307 4 dM_passes_307 (by decide) ?_
  exact xR_sub [2, 3, 1, 0] rfl (hk4 v1 (s1 ||| s0) (v3 + 1) m)
set_option maxRecDepth 100000 in
set_option maxHeartbeats 4000000 in
theorem kM_passes_b295 (G : xG)   (z : xM)  (k4 : Int32 → Int32 → Int32 → xM → Option (xM)) (hk4 : ∀ (v1 : Int32) (v2 : Int32) (v3 : Int32) (m : xM), xR G yyM_passes (emvm z) 4 [(0, .ref (xa G 85)), (1, .int v1), (2, .int v2), (3, .int v3)] [] (z, m) (k4 v1 v2 v3 m)) (v1 : Int32) (v3 : Int32) (s0 : Int32) (m : xM) : xR G yyM_passes (emvm z) 295 [(0, .ref (xa G 85)), (1, .int v1), (3, .int v3)] [.int s0] (z, m) (fM_passes_b295 k4 v1 v3 s0 m) := by
  unfold fM_passes_b295
  refine xR_ic 295 (1 : Int32) dM_passes_295 (by decide) ?_
  refine xR_iln 296 2 dM_passes_296 rfl rfl ?_
  refine xR_ishl 297 dM_passes_297 ?_
  refine xR_goto 298 302 dM_passes_298 (by decide) ?_
  exact kM_passes_b302 G z k4 hk4 v1 v3 ((1 : Int32) <<< (v3 &&& 31)) s0 m
set_option maxRecDepth 100000 in
set_option maxHeartbeats 4000000 in
theorem kM_passes_b267 (G : xG)   (z : xM)  (k4 : Int32 → Int32 → Int32 → xM → Option (xM)) (hk4 : ∀ (v1 : Int32) (v2 : Int32) (v3 : Int32) (m : xM), xR G yyM_passes (emvm z) 4 [(0, .ref (xa G 85)), (1, .int v1), (2, .int v2), (3, .int v3)] [] (z, m) (k4 v1 v2 v3 m)) (v1 : Int32) (v2 : Int32) (v3 : Int32) (v5 : Int32) (s0 : Int32) (m : xM) : xR G yyM_passes (emvm z) 267 [(0, .ref (xa G 85)), (1, .int v1), (2, .int v2), (3, .int v3), (5, .int v5)] [.int s0] (z, m) (fM_passes_b267 k4 v1 v2 v3 v5 s0 m) := by
  unfold fM_passes_b267
  refine xR_is 267 ([(6, .int s0), (0, .ref (xa G 85)), (1, .int v1), (2, .int v2), (3, .int v3), (5, .int v5)]) dM_passes_267 (by decide) rfl ?_
  refine xR_iln 269 3 dM_passes_269 rfl rfl ?_
  refine xR_il 270 5 dM_passes_270 rfl ?_
  refine xR_ifne 272 295 dM_passes_272 (by decide) ?_ ?_
  · exact xR_sub [1, 2, 4] rfl (kM_passes_b295 G z k4 hk4 v1 v3 v2 m)
  · refine xR_il 275 0 dM_passes_275 rfl ?_
    refine xR_ifne 277 295 dM_passes_277 (by decide) ?_ ?_
    · exact xR_sub [1, 2, 4] rfl (kM_passes_b295 G z k4 hk4 v1 v3 v2 m)
    · refine xR_aln 280 1 dM_passes_280 rfl rfl ?_
      refine xR_getf 281 xcf7 0 85 (by decide) (by decide) rfl (v := .ref (xa G 86)) rfl fl_RX9_7 dM_passes_281 ?_
      refine xR_iln 284 2 dM_passes_284 rfl rfl ?_
      refine xR_bp 285 (32 : Int32) dM_passes_285 (by decide) ?_
      refine xR_iadd 287 dM_passes_287 ?_
      refine xR_iln 288 4 dM_passes_288 rfl rfl ?_
      refine xR_iadd 289 dM_passes_289 ?_
      refine xR_iald 290 86 (by decide) rfl dM_passes_290 ?_
      refine xR_ic 291 (1 : Int32) dM_passes_291 (by decide) ?_
      refine xR_icne 292 301 dM_passes_292 (by decide) ?_ ?_
      · refine xR_ic 301 (0 : Int32) dM_passes_301 (by decide) ?_
        exact xR_sub [1, 2, 4] rfl (kM_passes_b302 G z k4 hk4 v1 v3 (0 : Int32) v2 m)
      · exact xR_sub [1, 2, 4] rfl (kM_passes_b295 G z k4 hk4 v1 v3 v2 m)
set_option maxRecDepth 100000 in
set_option maxHeartbeats 4000000 in
theorem kM_passes_b266 (G : xG)   (z : xM)  (k4 : Int32 → Int32 → Int32 → xM → Option (xM)) (hk4 : ∀ (v1 : Int32) (v2 : Int32) (v3 : Int32) (m : xM), xR G yyM_passes (emvm z) 4 [(0, .ref (xa G 85)), (1, .int v1), (2, .int v2), (3, .int v3)] [] (z, m) (k4 v1 v2 v3 m)) (v1 : Int32) (v2 : Int32) (v3 : Int32) (v5 : Int32) (m : xM) : xR G yyM_passes (emvm z) 266 [(0, .ref (xa G 85)), (1, .int v1), (2, .int v2), (3, .int v3), (5, .int v5)] [] (z, m) (fM_passes_b266 k4 v1 v2 v3 v5 m) := by
  unfold fM_passes_b266
  refine xR_ic 266 (0 : Int32) dM_passes_266 (by decide) ?_
  exact kM_passes_b267 G z k4 hk4 v1 v2 v3 v5 (0 : Int32) m
set_option maxRecDepth 100000 in
set_option maxHeartbeats 4000000 in
theorem kM_passes_b202 (G : xG)   (z : xM)  (k4 : Int32 → Int32 → Int32 → xM → Option (xM)) (hk4 : ∀ (v1 : Int32) (v2 : Int32) (v3 : Int32) (m : xM), xR G yyM_passes (emvm z) 4 [(0, .ref (xa G 85)), (1, .int v1), (2, .int v2), (3, .int v3)] [] (z, m) (k4 v1 v2 v3 m)) (v1 : Int32) (v2 : Int32) (v3 : Int32) (s0 : Int32) (m : xM) : xR G yyM_passes (emvm z) 202 [(0, .ref (xa G 85)), (1, .int v1), (2, .int v2), (3, .int v3)] [.int s0] (z, m) (fM_passes_b202 k4 v1 v2 v3 s0 m) := by
  unfold fM_passes_b202
  refine xR_is 202 ([(5, .int s0), (0, .ref (xa G 85)), (1, .int v1), (2, .int v2), (3, .int v3)]) dM_passes_202 (by decide) rfl ?_
  refine xR_iln 204 4 dM_passes_204 rfl rfl ?_
  refine xR_ic 205 (1 : Int32) dM_passes_205 (by decide) ?_
  refine xR_iadd 206 dM_passes_206 ?_
  refine xR_aln 207 1 dM_passes_207 rfl rfl ?_
  refine xR_getf 208 xcf7 0 85 (by decide) (by decide) rfl (v := .ref (xa G 86)) rfl fl_RX9_7 dM_passes_208 ?_
  refine xR_iln 211 2 dM_passes_211 rfl rfl ?_
  refine xR_ic 212 (0 : Int32) dM_passes_212 (by decide) ?_
  refine xR_iadd 213 dM_passes_213 ?_
  refine xR_iald 214 86 (by decide) rfl dM_passes_214 ?_
  refine xR_icge 215 266 dM_passes_215 (by decide) ?_ ?_
  · exact xR_sub [1, 2, 3, 4, 0] rfl (kM_passes_b266 G z k4 hk4 v1 v2 v3 s0 m)
  · refine xR_aln 218 1 dM_passes_218 rfl rfl ?_
    refine xR_getf 219 xcf7 0 85 (by decide) (by decide) rfl (v := .ref (xa G 86)) rfl fl_RX9_7 dM_passes_219 ?_
    refine xR_iln 222 2 dM_passes_222 rfl rfl ?_
    refine xR_bp 223 (32 : Int32) dM_passes_223 (by decide) ?_
    refine xR_iadd 225 dM_passes_225 ?_
    refine xR_iln 226 4 dM_passes_226 rfl rfl ?_
    refine xR_iadd 227 dM_passes_227 ?_
    refine xR_ic 228 (1 : Int32) dM_passes_228 (by decide) ?_
    refine xR_iadd 229 dM_passes_229 ?_
    refine xR_iald 230 86 (by decide) rfl dM_passes_230 ?_
    refine xR_ic 231 (1 : Int32) dM_passes_231 (by decide) ?_
    refine xR_icne 232 266 dM_passes_232 (by decide) ?_ ?_
    · exact xR_sub [1, 2, 3, 4, 0] rfl (kM_passes_b266 G z k4 hk4 v1 v2 v3 s0 m)
    · refine xR_aln 235 1 dM_passes_235 rfl rfl ?_
      refine xR_getf 236 xcf7 0 85 (by decide) (by decide) rfl (v := .ref (xa G 86)) rfl fl_RX9_7 dM_passes_236 ?_
      refine xR_iln 239 2 dM_passes_239 rfl rfl ?_
      refine xR_bp 240 (38 : Int32) dM_passes_240 (by decide) ?_
      refine xR_iadd 242 dM_passes_242 ?_
      refine xR_iln 243 4 dM_passes_243 rfl rfl ?_
      refine xR_iadd 244 dM_passes_244 ?_
      refine xR_ic 245 (1 : Int32) dM_passes_245 (by decide) ?_
      refine xR_iadd 246 dM_passes_246 ?_
      refine xR_iald 247 86 (by decide) rfl dM_passes_247 ?_
      refine xR_aln 248 1 dM_passes_248 rfl rfl ?_
      refine xR_getf 249 xcf7 0 85 (by decide) (by decide) rfl (v := .ref (xa G 86)) rfl fl_RX9_7 dM_passes_249 ?_
      refine xR_iln 252 2 dM_passes_252 rfl rfl ?_
      refine xR_bp 253 (38 : Int32) dM_passes_253 (by decide) ?_
      refine xR_iadd 255 dM_passes_255 ?_
      refine xR_iln 256 4 dM_passes_256 rfl rfl ?_
      refine xR_iadd 257 dM_passes_257 ?_
      refine xR_iald 258 86 (by decide) rfl dM_passes_258 ?_
      refine xR_icne 259 266 dM_passes_259 (by decide) ?_ ?_
      · exact xR_sub [1, 2, 3, 4, 0] rfl (kM_passes_b266 G z k4 hk4 v1 v2 v3 s0 m)
      · refine xR_ic 262 (1 : Int32) dM_passes_262 (by decide) ?_
        refine xR_goto 263 267 dM_passes_263 (by decide) ?_
        exact xR_sub [1, 2, 3, 4, 0] rfl (kM_passes_b267 G z k4 hk4 v1 v2 v3 s0 (1 : Int32) m)
set_option maxRecDepth 100000 in
set_option maxHeartbeats 4000000 in
theorem kM_passes_b201 (G : xG)   (z : xM)  (k4 : Int32 → Int32 → Int32 → xM → Option (xM)) (hk4 : ∀ (v1 : Int32) (v2 : Int32) (v3 : Int32) (m : xM), xR G yyM_passes (emvm z) 4 [(0, .ref (xa G 85)), (1, .int v1), (2, .int v2), (3, .int v3)] [] (z, m) (k4 v1 v2 v3 m)) (v1 : Int32) (v2 : Int32) (v3 : Int32) (m : xM) : xR G yyM_passes (emvm z) 201 [(0, .ref (xa G 85)), (1, .int v1), (2, .int v2), (3, .int v3)] [] (z, m) (fM_passes_b201 k4 v1 v2 v3 m) := by
  unfold fM_passes_b201
  refine xR_ic 201 (0 : Int32) dM_passes_201 (by decide) ?_
  exact kM_passes_b202 G z k4 hk4 v1 v2 v3 (0 : Int32) m
set_option maxRecDepth 100000 in
set_option maxHeartbeats 4000000 in
theorem kM_passes_b147 (G : xG)   (z : xM)  (k4 : Int32 → Int32 → Int32 → xM → Option (xM)) (hk4 : ∀ (v1 : Int32) (v2 : Int32) (v3 : Int32) (m : xM), xR G yyM_passes (emvm z) 4 [(0, .ref (xa G 85)), (1, .int v1), (2, .int v2), (3, .int v3)] [] (z, m) (k4 v1 v2 v3 m)) (v1 : Int32) (v2 : Int32) (v3 : Int32) (s0 : Int32) (s1 : Int32) (s2 : Int32) (m : xM) : xR G yyM_passes (emvm z) 147 [(0, .ref (xa G 85)), (1, .int v1), (2, .int v2), (3, .int v3)] [.int s0, .int s1, .int s2, .ref (xa G 86)] (z, m) (fM_passes_b147 k4 v1 v2 v3 s0 s1 s2 m) := by
  unfold fM_passes_b147
  refine xR_iadd 147 dM_passes_147 ?_
  refine xR_iast 148 86 (by decide) rfl (z, (xset m 0 s2.toNatClampNeg (s1 + s0))) xW_m0 dM_passes_148 ?_
  refine xR_iln 149 3 dM_passes_149 rfl rfl ?_
  refine xR_ifle 150 201 dM_passes_150 (by decide) ?_ ?_
  · exact kM_passes_b201 G z k4 hk4 v1 v2 v3 (xset m 0 s2.toNatClampNeg (s1 + s0))
  · refine xR_aln 153 0 dM_passes_153 rfl rfl ?_
    refine xR_getf 154 xcf7 0 85 (by decide) (by decide) rfl (v := .ref (xa G 86)) rfl fl_RX9_7 dM_passes_154 ?_
    refine xR_iln 157 1 dM_passes_157 rfl rfl ?_
    refine xR_bp 158 (32 : Int32) dM_passes_158 (by decide) ?_
    refine xR_iadd 160 dM_passes_160 ?_
    refine xR_iln 161 3 dM_passes_161 rfl rfl ?_
    refine xR_iadd 162 dM_passes_162 ?_
    refine xR_ic 163 (1 : Int32) dM_passes_163 (by decide) ?_
    refine xR_isub 164 dM_passes_164 ?_
    refine xR_iald 165 86 (by decide) rfl dM_passes_165 ?_
    refine xR_ic 166 (1 : Int32) dM_passes_166 (by decide) ?_
    refine xR_icne 167 201 dM_passes_167 (by decide) ?_ ?_
    · exact kM_passes_b201 G z k4 hk4 v1 v2 v3 (xset m 0 s2.toNatClampNeg (s1 + s0))
    · refine xR_aln 170 0 dM_passes_170 rfl rfl ?_
      refine xR_getf 171 xcf7 0 85 (by decide) (by decide) rfl (v := .ref (xa G 86)) rfl fl_RX9_7 dM_passes_171 ?_
      refine xR_iln 174 1 dM_passes_174 rfl rfl ?_
      refine xR_bp 175 (38 : Int32) dM_passes_175 (by decide) ?_
      refine xR_iadd 177 dM_passes_177 ?_
      refine xR_iln 178 3 dM_passes_178 rfl rfl ?_
      refine xR_iadd 179 dM_passes_179 ?_
      refine xR_ic 180 (1 : Int32) dM_passes_180 (by decide) ?_
      refine xR_isub 181 dM_passes_181 ?_
      refine xR_iald 182 86 (by decide) rfl dM_passes_182 ?_
      refine xR_aln 183 0 dM_passes_183 rfl rfl ?_
      refine xR_getf 184 xcf7 0 85 (by decide) (by decide) rfl (v := .ref (xa G 86)) rfl fl_RX9_7 dM_passes_184 ?_
      refine xR_iln 187 1 dM_passes_187 rfl rfl ?_
      refine xR_bp 188 (38 : Int32) dM_passes_188 (by decide) ?_
      refine xR_iadd 190 dM_passes_190 ?_
      refine xR_iln 191 3 dM_passes_191 rfl rfl ?_
      refine xR_iadd 192 dM_passes_192 ?_
      refine xR_iald 193 86 (by decide) rfl dM_passes_193 ?_
      refine xR_icne 194 201 dM_passes_194 (by decide) ?_ ?_
      · exact kM_passes_b201 G z k4 hk4 v1 v2 v3 (xset m 0 s2.toNatClampNeg (s1 + s0))
      · refine xR_ic 197 (1 : Int32) dM_passes_197 (by decide) ?_
        refine xR_goto 198 202 dM_passes_198 (by decide) ?_
        exact kM_passes_b202 G z k4 hk4 v1 v2 v3 (1 : Int32) (xset m 0 s2.toNatClampNeg (s1 + s0))
set_option maxRecDepth 100000 in
set_option maxHeartbeats 4000000 in
theorem kM_passes_b113 (G : xG)   (z : xM)  (k4 : Int32 → Int32 → Int32 → xM → Option (xM)) (hk4 : ∀ (v1 : Int32) (v2 : Int32) (v3 : Int32) (m : xM), xR G yyM_passes (emvm z) 4 [(0, .ref (xa G 85)), (1, .int v1), (2, .int v2), (3, .int v3)] [] (z, m) (k4 v1 v2 v3 m)) (v1 : Int32) (v2 : Int32) (v3 : Int32) (s0 : Int32) (s1 : Int32) (m : xM) : xR G yyM_passes (emvm z) 113 [(0, .ref (xa G 85)), (1, .int v1), (2, .int v2), (3, .int v3)] [.int s0, .int s1, .ref (xa G 86)] (z, m) (fM_passes_b113 k4 v1 v2 v3 s0 s1 m) := by
  unfold fM_passes_b113
  refine xR_iast 113 86 (by decide) rfl (z, (xset m 0 s1.toNatClampNeg s0)) xW_m0 dM_passes_113 ?_
  refine xR_aln 114 0 dM_passes_114 rfl rfl ?_
  refine xR_getf 115 xcf7 0 85 (by decide) (by decide) rfl (v := .ref (xa G 86)) rfl fl_RX9_7 dM_passes_115 ?_
  refine xR_iln 118 1 dM_passes_118 rfl rfl ?_
  refine xR_bp 119 (14 : Int32) dM_passes_119 (by decide) ?_
  refine xR_iadd 121 dM_passes_121 ?_
  refine xR_iln 122 3 dM_passes_122 rfl rfl ?_
  refine xR_iadd 123 dM_passes_123 ?_
  refine xR_dup2 124 dM_passes_124 rfl rfl ?_
  refine xR_iald 125 86 (by decide) rfl dM_passes_125 ?_
  refine xR_aln 126 0 dM_passes_126 rfl rfl ?_
  refine xR_getf 127 xcf7 0 85 (by decide) (by decide) rfl (v := .ref (xa G 86)) rfl fl_RX9_7 dM_passes_127 ?_
  refine xR_iln 130 1 dM_passes_130 rfl rfl ?_
  refine xR_bp 131 (14 : Int32) dM_passes_131 (by decide) ?_
  refine xR_iadd 133 dM_passes_133 ?_
  refine xR_iln 134 3 dM_passes_134 rfl rfl ?_
  refine xR_iadd 135 dM_passes_135 ?_
  refine xR_iald 136 86 (by decide) rfl dM_passes_136 ?_
  refine xR_bp 137 (99 : Int32) dM_passes_137 (by decide) ?_
  refine xR_icge 139 146 dM_passes_139 (by decide) ?_ ?_
  · refine xR_ic 146 (0 : Int32) dM_passes_146 (by decide) ?_
    exact kM_passes_b147 G z k4 hk4 v1 v2 v3 (0 : Int32) ((xset m 0 s1.toNatClampNeg s0).1 0 ((v1 + (14 : Int32)) + v3).toNatClampNeg) ((v1 + (14 : Int32)) + v3) (xset m 0 s1.toNatClampNeg s0)
  · refine xR_ic 142 (1 : Int32) dM_passes_142 (by decide) ?_
    refine xR_goto 143 147 dM_passes_143 (by decide) ?_
    exact kM_passes_b147 G z k4 hk4 v1 v2 v3 (1 : Int32) ((xset m 0 s1.toNatClampNeg s0).1 0 ((v1 + (14 : Int32)) + v3).toNatClampNeg) ((v1 + (14 : Int32)) + v3) (xset m 0 s1.toNatClampNeg s0)
set_option maxRecDepth 100000 in
set_option maxHeartbeats 4000000 in
theorem kM_passes_b78 (G : xG)   (z : xM)  (k4 : Int32 → Int32 → Int32 → xM → Option (xM)) (hk4 : ∀ (v1 : Int32) (v2 : Int32) (v3 : Int32) (m : xM), xR G yyM_passes (emvm z) 4 [(0, .ref (xa G 85)), (1, .int v1), (2, .int v2), (3, .int v3)] [] (z, m) (k4 v1 v2 v3 m)) (v1 : Int32) (v2 : Int32) (v3 : Int32) (s0 : Int32) (m : xM) : xR G yyM_passes (emvm z) 78 [(0, .ref (xa G 85)), (1, .int v1), (2, .int v2), (3, .int v3)] [.int s0] (z, m) (fM_passes_b78 k4 v1 v2 v3 s0 m) := by
  unfold fM_passes_b78
  refine xR_is 78 ([(4, .int s0), (0, .ref (xa G 85)), (1, .int v1), (2, .int v2), (3, .int v3)]) dM_passes_78 (by decide) rfl ?_
  refine xR_aln 80 1 dM_passes_80 rfl rfl ?_
  refine xR_getf 81 xcf7 0 85 (by decide) (by decide) rfl (v := .ref (xa G 86)) rfl fl_RX9_7 dM_passes_81 ?_
  refine xR_iln 84 2 dM_passes_84 rfl rfl ?_
  refine xR_bp 85 (20 : Int32) dM_passes_85 (by decide) ?_
  refine xR_iadd 87 dM_passes_87 ?_
  refine xR_iln 88 4 dM_passes_88 rfl rfl ?_
  refine xR_iadd 89 dM_passes_89 ?_
  refine xR_il 90 0 dM_passes_90 rfl ?_
  refine xR_bp 92 (9 : Int32) dM_passes_92 (by decide) ?_
  refine xR_icle 94 102 dM_passes_94 (by decide) ?_ ?_
  · refine xR_il 102 0 dM_passes_102 rfl ?_
    refine xR_ifge 104 111 dM_passes_104 (by decide) ?_ ?_
    · refine xR_il 111 0 dM_passes_111 rfl ?_
      exact xR_sub [1, 2, 3, 4] rfl (kM_passes_b113 G z k4 hk4 v1 v2 v3 s0 ((v1 + (20 : Int32)) + v3) m)
    · refine xR_ic 107 (0 : Int32) dM_passes_107 (by decide) ?_
      refine xR_goto 108 113 dM_passes_108 (by decide) ?_
      exact xR_sub [1, 2, 3, 4] rfl (kM_passes_b113 G z k4 hk4 v1 v2 v3 (0 : Int32) ((v1 + (20 : Int32)) + v3) m)
  · refine xR_bp 97 (9 : Int32) dM_passes_97 (by decide) ?_
    refine xR_goto 99 113 dM_passes_99 (by decide) ?_
    exact xR_sub [1, 2, 3, 4] rfl (kM_passes_b113 G z k4 hk4 v1 v2 v3 (9 : Int32) ((v1 + (20 : Int32)) + v3) m)
set_option maxRecDepth 100000 in
set_option maxHeartbeats 4000000 in
theorem kM_passes_l4 (G : xG)   (z : xM)    : ∀ (n : Nat) (v1 : Int32) (v2 : Int32) (v3 : Int32) (m : xM), xR G yyM_passes (emvm z) 4 [(0, .ref (xa G 85)), (1, .int v1), (2, .int v2), (3, .int v3)] [] (z, m) (fM_passes_l4  n v1 v2 v3 m) := by
  intro n
  induction n with
  | zero =>
    intro v1 v2 v3 m
    rw [fM_passes_l4]
    exact xR_none
  | succ n ih =>
    intro v1 v2 v3 m
    rw [fM_passes_l4]
    refine xR_iln 4 3 dM_passes_4 rfl rfl ?_
    refine xR_aln 5 0 dM_passes_5 rfl rfl ?_
    refine xR_getf 6 xcf7 0 85 (by decide) (by decide) rfl (v := .ref (xa G 86)) rfl fl_RX9_7 dM_passes_6 ?_
    refine xR_iln 9 1 dM_passes_9 rfl rfl ?_
    refine xR_ic 10 (0 : Int32) dM_passes_10 (by decide) ?_
    refine xR_iadd 11 dM_passes_11 ?_
    refine xR_iald 12 86 (by decide) rfl dM_passes_12 ?_
    refine xR_icge 13 310 dM_passes_13 (by decide) ?_ ?_
    · refine xR_ic 310 (0 : Int32) dM_passes_310 (by decide) ?_
      refine xR_isn 311 ([(3, .int (0 : Int32)), (0, .ref (xa G 85)), (1, .int v1), (2, .int v2)]) dM_passes_311 rfl (by decide) rfl ?_
      exact xR_sub [1, 2, 3, 0] rfl (kM_passes_l312 G z xfu v1 v2 (0 : Int32) m)
    · refine xR_aln 16 0 dM_passes_16 rfl rfl ?_
      refine xR_getf 17 xcf7 0 85 (by decide) (by decide) rfl (v := .ref (xa G 86)) rfl fl_RX9_7 dM_passes_17 ?_
      refine xR_iln 20 1 dM_passes_20 rfl rfl ?_
      refine xR_bp 21 (38 : Int32) dM_passes_21 (by decide) ?_
      refine xR_iadd 23 dM_passes_23 ?_
      refine xR_iln 24 3 dM_passes_24 rfl rfl ?_
      refine xR_iadd 25 dM_passes_25 ?_
      refine xR_iald 26 86 (by decide) rfl dM_passes_26 ?_
      refine xR_ic 27 (-1 : Int32) dM_passes_27 (by decide) ?_
      refine xR_icne 28 65 dM_passes_28 (by decide) ?_ ?_
      · refine xR_aln 65 0 dM_passes_65 rfl rfl ?_
        refine xR_getf 66 xcf7 0 85 (by decide) (by decide) rfl (v := .ref (xa G 86)) rfl fl_RX9_7 dM_passes_66 ?_
        refine xR_iln 69 1 dM_passes_69 rfl rfl ?_
        refine xR_bp 70 (20 : Int32) dM_passes_70 (by decide) ?_
        refine xR_iadd 72 dM_passes_72 ?_
        refine xR_iln 73 3 dM_passes_73 rfl rfl ?_
        refine xR_iadd 74 dM_passes_74 ?_
        refine xR_iald 75 86 (by decide) rfl dM_passes_75 ?_
        refine xR_ic 76 (1 : Int32) dM_passes_76 (by decide) ?_
        refine xR_isub 77 dM_passes_77 ?_
        exact kM_passes_b78 G z (fM_passes_l4 n) ih v1 v2 v3 ((m.1 0 ((v1 + (20 : Int32)) + v3).toNatClampNeg) - (1 : Int32)) m
      · refine xR_aln 31 0 dM_passes_31 rfl rfl ?_
        refine xR_getf 32 xcf7 0 85 (by decide) (by decide) rfl (v := .ref (xa G 86)) rfl fl_RX9_7 dM_passes_32 ?_
        refine xR_iln 35 1 dM_passes_35 rfl rfl ?_
        refine xR_bp 36 (20 : Int32) dM_passes_36 (by decide) ?_
        refine xR_iadd 38 dM_passes_38 ?_
        refine xR_iln 39 3 dM_passes_39 rfl rfl ?_
        refine xR_iadd 40 dM_passes_40 ?_
        refine xR_iald 41 86 (by decide) rfl dM_passes_41 ?_
        refine xR_aln 42 0 dM_passes_42 rfl rfl ?_
        refine xR_getf 43 xcf7 0 85 (by decide) (by decide) rfl (v := .ref (xa G 86)) rfl fl_RX9_7 dM_passes_43 ?_
        refine xR_iln 46 1 dM_passes_46 rfl rfl ?_
        refine xR_ic 47 (3 : Int32) dM_passes_47 (by decide) ?_
        refine xR_iadd 48 dM_passes_48 ?_
        refine xR_aln 49 0 dM_passes_49 rfl rfl ?_
        refine xR_getf 50 xcf7 0 85 (by decide) (by decide) rfl (v := .ref (xa G 86)) rfl fl_RX9_7 dM_passes_50 ?_
        refine xR_iln 53 1 dM_passes_53 rfl rfl ?_
        refine xR_ic 54 (2 : Int32) dM_passes_54 (by decide) ?_
        refine xR_iadd 55 dM_passes_55 ?_
        refine xR_iald 56 86 (by decide) rfl dM_passes_56 ?_
        refine xR_ic 57 (5 : Int32) dM_passes_57 (by decide) ?_
        refine xR_irem 58 dM_passes_58 (by decide) ?_
        refine xR_iadd 59 dM_passes_59 ?_
        refine xR_iald 60 86 (by decide) rfl dM_passes_60 ?_
        refine xR_iadd 61 dM_passes_61 ?_
        refine xR_goto 62 78 dM_passes_62 (by decide) ?_
        exact kM_passes_b78 G z (fM_passes_l4 n) ih v1 v2 v3 ((m.1 0 ((v1 + (20 : Int32)) + v3).toNatClampNeg) + (m.1 0 ((v1 + (3 : Int32)) + ((m.1 0 (v1 + (2 : Int32)).toNatClampNeg) - (m.1 0 (v1 + (2 : Int32)).toNatClampNeg) / (5 : Int32) * (5 : Int32))).toNatClampNeg)) m
set_option maxRecDepth 100000 in
set_option maxHeartbeats 4000000 in
theorem kM_passes (G : xG)   (z : xM) (m : xM) (v1 : Int32) : ∀ a, fM_passes  v1 m = some a → xCt G yyM_passes [.ref (xa G 85), .int v1] (z, m) (none) (z, a) := by
  refine xR_ct (em := (emvm z)) rfl (Nat.le_of_ble_eq_true rfl) ?_
  show xR G yyM_passes _ 0 [(0, .ref (xa G 85)), (1, .int v1)] [] _ _
  unfold fM_passes
  refine xR_ic 0 (0 : Int32) dM_passes_0 (by decide) ?_
  refine xR_isn 1 ([(2, .int (0 : Int32)), (0, .ref (xa G 85)), (1, .int v1)]) dM_passes_1 rfl (by decide) rfl ?_
  refine xR_ic 2 (0 : Int32) dM_passes_2 (by decide) ?_
  refine xR_isn 3 ([(3, .int (0 : Int32)), (2, .int (0 : Int32)), (0, .ref (xa G 85)), (1, .int v1)]) dM_passes_3 rfl (by decide) rfl ?_
  exact xR_sub [2, 3, 1, 0] rfl (kM_passes_l4 G z xfu v1 (0 : Int32) (0 : Int32) m)
theorem dM_readsYears_0 : decode (xb yyM_readsYears) 0 = .ok (.aload_n 0, 1) := by decide +kernel
theorem dM_readsYears_1 : decode (xb yyM_readsYears) 1 = .ok (.iconst 1, 1) := by decide +kernel
theorem dM_readsYears_2 : decode (xb yyM_readsYears) 2 = .ok (.bipush 99, 2) := by decide +kernel
theorem dM_readsYears_4 : decode (xb yyM_readsYears) 4 = .ok (.invokevirtual 123, 3) := by decide +kernel
theorem dM_readsYears_7 : decode (xb yyM_readsYears) 7 = .ok (.ifCond .ne 5, 3) := by decide +kernel
theorem dM_readsYears_10 : decode (xb yyM_readsYears) 10 = .ok (.iconst 0, 1) := by decide +kernel
theorem dM_readsYears_11 : decode (xb yyM_readsYears) 11 = .ok (.ireturn, 1) := by decide +kernel
theorem dM_readsYears_12 : decode (xb yyM_readsYears) 12 = .ok (.iconst 0, 1) := by decide +kernel
theorem dM_readsYears_13 : decode (xb yyM_readsYears) 13 = .ok (.istore_n 1, 1) := by decide +kernel
theorem dM_readsYears_14 : decode (xb yyM_readsYears) 14 = .ok (.iload_n 1, 1) := by decide +kernel
theorem dM_readsYears_15 : decode (xb yyM_readsYears) 15 = .ok (.aload_n 0, 1) := by decide +kernel
theorem dM_readsYears_16 : decode (xb yyM_readsYears) 16 = .ok (.getfield 114, 3) := by decide +kernel
theorem dM_readsYears_19 : decode (xb yyM_readsYears) 19 = .ok (.if_icmp .ge 30, 3) := by decide +kernel
theorem dM_readsYears_22 : decode (xb yyM_readsYears) 22 = .ok (.aload_n 0, 1) := by decide +kernel
theorem dM_readsYears_23 : decode (xb yyM_readsYears) 23 = .ok (.getfield 7, 3) := by decide +kernel
theorem dM_readsYears_26 : decode (xb yyM_readsYears) 26 = .ok (.sipush 1280, 3) := by decide +kernel
theorem dM_readsYears_29 : decode (xb yyM_readsYears) 29 = .ok (.iaload, 1) := by decide +kernel
theorem dM_readsYears_30 : decode (xb yyM_readsYears) 30 = .ok (.sipush 999, 3) := by decide +kernel
theorem dM_readsYears_33 : decode (xb yyM_readsYears) 33 = .ok (.if_icmp .ge 10, 3) := by decide +kernel
theorem dM_readsYears_36 : decode (xb yyM_readsYears) 36 = .ok (.aload_n 0, 1) := by decide +kernel
theorem dM_readsYears_37 : decode (xb yyM_readsYears) 37 = .ok (.sipush 1278, 3) := by decide +kernel
theorem dM_readsYears_40 : decode (xb yyM_readsYears) 40 = .ok (.invokevirtual 130, 3) := by decide +kernel
theorem dM_readsYears_43 : decode (xb yyM_readsYears) 43 = .ok (.iinc 1 1, 3) := by decide +kernel
theorem dM_readsYears_46 : decode (xb yyM_readsYears) 46 = .ok (.goto (-32), 3) := by decide +kernel
theorem dM_readsYears_49 : decode (xb yyM_readsYears) 49 = .ok (.iconst 1, 1) := by decide +kernel
theorem dM_readsYears_50 : decode (xb yyM_readsYears) 50 = .ok (.ireturn, 1) := by decide +kernel
def fM_readsYears_b43 (k14 : Int32 → xM → Option (Int32 × xM)) (v1 : Int32) (m : xM) : Option (Int32 × xM) := k14 (v1 + 1) m
def fM_readsYears_l14  : Nat → Int32 → xM → Option (Int32 × xM)
  | 0, _, _ => none
  | n + 1, v1, m => (if (m.1 6 3) ≤ v1 then some ((xnb (1 : Int32)), m) else xck 1752 (1280 : Int32) ((if (999 : Int32) ≤ (m.1 0 (1280 : Int32).toNatClampNeg) then fM_readsYears_b43 (fM_readsYears_l14 n) v1 m else (fM_passes (1278 : Int32) m).bind fun r40 => fM_readsYears_b43 (fM_readsYears_l14 n) v1 r40)))
def fM_readsYears  (m : xM) : Option (Int32 × xM) := (fM_takesNumber (1 : Int32) (99 : Int32) m).bind fun r4 => (if r4.1 = 0 then some ((xnb (0 : Int32)), r4.2) else fM_readsYears_l14 xfu (0 : Int32) r4.2)
set_option maxRecDepth 100000 in
set_option maxHeartbeats 4000000 in
theorem kM_readsYears_b43 (G : xG)   (z : xM)  (k14 : Int32 → xM → Option (Int32 × xM)) (hk14 : ∀ (v1 : Int32) (m : xM), xR G yyM_readsYears (emim z) 14 [(0, .ref (xa G 85)), (1, .int v1)] [] (z, m) (k14 v1 m)) (v1 : Int32) (m : xM) : xR G yyM_readsYears (emim z) 43 [(0, .ref (xa G 85)), (1, .int v1)] [] (z, m) (fM_readsYears_b43 k14 v1 m) := by
  unfold fM_readsYears_b43
  refine xR_iinc 43 1 (v1 + 1) ([(1, .int (v1 + 1)), (0, .ref (xa G 85))]) dM_readsYears_43 rfl rfl (by decide) rfl ?_
  refine xR_goto 46 14 dM_readsYears_46 (by decide) ?_
  exact xR_sub [1, 0] rfl (hk14 (v1 + 1) m)
set_option maxRecDepth 100000 in
set_option maxHeartbeats 4000000 in
theorem kM_readsYears_l14 (G : xG)   (z : xM)    : ∀ (n : Nat) (v1 : Int32) (m : xM), xR G yyM_readsYears (emim z) 14 [(0, .ref (xa G 85)), (1, .int v1)] [] (z, m) (fM_readsYears_l14  n v1 m) := by
  intro n
  induction n with
  | zero =>
    intro v1 m
    rw [fM_readsYears_l14]
    exact xR_none
  | succ n ih =>
    intro v1 m
    rw [fM_readsYears_l14]
    refine xR_iln 14 1 dM_readsYears_14 rfl rfl ?_
    refine xR_aln 15 0 dM_readsYears_15 rfl rfl ?_
    refine xR_getf 16 xcf7 9 85 (by decide) (by decide) rfl (v := .int (m.1 6 3)) rfl fl_RX9_114 dM_readsYears_16 ?_
    refine xR_icge 19 49 dM_readsYears_19 (by decide) ?_ ?_
    · refine xR_ic 49 (1 : Int32) dM_readsYears_49 (by decide) ?_
      exact xR_zret 50 rfl rfl dM_readsYears_50
    · refine xR_aln 22 0 dM_readsYears_22 rfl rfl ?_
      refine xR_getf 23 xcf7 0 85 (by decide) (by decide) rfl (v := .ref (xa G 86)) rfl fl_RX9_7 dM_readsYears_23 ?_
      refine xR_sp 26 (1280 : Int32) dM_readsYears_26 (by decide) ?_
      refine xR_iald 29 86 (by decide) rfl dM_readsYears_29 ?_
      refine xR_sp 30 (999 : Int32) dM_readsYears_30 (by decide) ?_
      refine xR_icge 33 43 dM_readsYears_33 (by decide) ?_ ?_
      · exact kM_readsYears_b43 G z (fM_readsYears_l14 n) ih v1 m
      · refine xR_aln 36 0 dM_readsYears_36 rfl rfl ?_
        refine xR_sp 37 (1278 : Int32) dM_readsYears_37 (by decide) ?_
        refine xR_callVvm 40 cv_M_passes ml_RX9_130 ⟨Nat.le_of_ble_eq_true rfl, Nat.le_of_ble_eq_true rfl⟩ xcf7 rfl 85 (by decide) rfl [.int (1278 : Int32)] rfl rfl (Nat.le_of_ble_eq_true rfl) dM_readsYears_40 (kM_passes G z m (1278 : Int32)) (fun r40 => ?_)
        exact kM_readsYears_b43 G z (fM_readsYears_l14 n) ih v1 r40
set_option maxRecDepth 100000 in
set_option maxHeartbeats 4000000 in
theorem kM_readsYears (G : xG)   (z : xM) (m : xM) : ∀ a, fM_readsYears  m = some a → xCt G yyM_readsYears [.ref (xa G 85)] (z, m) (some (.int a.1)) (z, a.2) := by
  refine xR_ct (em := (emim z)) rfl (Nat.le_of_ble_eq_true rfl) ?_
  show xR G yyM_readsYears _ 0 [(0, .ref (xa G 85))] [] _ _
  unfold fM_readsYears
  refine xR_aln 0 0 dM_readsYears_0 rfl rfl ?_
  refine xR_ic 1 (1 : Int32) dM_readsYears_1 (by decide) ?_
  refine xR_bp 2 (99 : Int32) dM_readsYears_2 (by decide) ?_
  refine xR_callVim 4 cv_M_takesNumber ml_RX9_123 ⟨Nat.le_of_ble_eq_true rfl, Nat.le_of_ble_eq_true rfl⟩ xcf7 rfl 85 (by decide) rfl [.int (1 : Int32), .int (99 : Int32)] rfl rfl (Nat.le_of_ble_eq_true rfl) dM_readsYears_4 (kM_takesNumber G z m (1 : Int32) (99 : Int32)) (fun r4 => ?_)
  refine xR_ifne 7 12 dM_readsYears_7 (by decide) ?_ ?_
  · refine xR_ic 12 (0 : Int32) dM_readsYears_12 (by decide) ?_
    refine xR_isn 13 ([(1, .int (0 : Int32)), (0, .ref (xa G 85))]) dM_readsYears_13 rfl (by decide) rfl ?_
    exact xR_sub [1, 0] rfl (kM_readsYears_l14 G z xfu (0 : Int32) r4.2)
  · refine xR_ic 10 (0 : Int32) dM_readsYears_10 (by decide) ?_
    exact xR_zret 11 rfl rfl dM_readsYears_11
