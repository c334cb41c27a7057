theorem dO_endOfRun_0 : decode (xb yyO_endOfRun) 0 = .ok (.iload_n 1, 1) := by decide +kernel
theorem dO_endOfRun_1 : decode (xb yyO_endOfRun) 1 = .ok (.istore 4, 2) := by decide +kernel
theorem dO_endOfRun_3 : decode (xb yyO_endOfRun) 3 = .ok (.iload 4, 2) := by decide +kernel
theorem dO_endOfRun_5 : decode (xb yyO_endOfRun) 5 = .ok (.aload_n 0, 1) := by decide +kernel
theorem dO_endOfRun_6 : decode (xb yyO_endOfRun) 6 = .ok (.invokevirtual 24, 3) := by decide +kernel
theorem dO_endOfRun_9 : decode (xb yyO_endOfRun) 9 = .ok (.if_icmp .ge 24, 3) := by decide +kernel
theorem dO_endOfRun_12 : decode (xb yyO_endOfRun) 12 = .ok (.aload_n 0, 1) := by decide +kernel
theorem dO_endOfRun_13 : decode (xb yyO_endOfRun) 13 = .ok (.iload 4, 2) := by decide +kernel
theorem dO_endOfRun_15 : decode (xb yyO_endOfRun) 15 = .ok (.iconst 0, 1) := by decide +kernel
theorem dO_endOfRun_16 : decode (xb yyO_endOfRun) 16 = .ok (.invokevirtual 50, 3) := by decide +kernel
theorem dO_endOfRun_19 : decode (xb yyO_endOfRun) 19 = .ok (.iload_n 2, 1) := by decide +kernel
theorem dO_endOfRun_20 : decode (xb yyO_endOfRun) 20 = .ok (.iload_n 3, 1) := by decide +kernel
theorem dO_endOfRun_21 : decode (xb yyO_endOfRun) 21 = .ok (.invokestatic 60, 3) := by decide +kernel
theorem dO_endOfRun_24 : decode (xb yyO_endOfRun) 24 = .ok (.ifCond .eq 9, 3) := by decide +kernel
theorem dO_endOfRun_27 : decode (xb yyO_endOfRun) 27 = .ok (.iinc 4 1, 3) := by decide +kernel
theorem dO_endOfRun_30 : decode (xb yyO_endOfRun) 30 = .ok (.goto (-27), 3) := by decide +kernel
theorem dO_endOfRun_33 : decode (xb yyO_endOfRun) 33 = .ok (.iload 4, 2) := by decide +kernel
theorem dO_endOfRun_35 : decode (xb yyO_endOfRun) 35 = .ok (.ireturn, 1) := by decide +kernel
def fO_endOfRun_l3 (t0 : Nat) (m : xM) : Nat → Int32 → Int32 → Int32 → Option (Int32)
  | 0, _, _, _ => none
  | n + 1, v2, v3, v4 => (fT_many t0 m).bind fun r6 => (if r6 ≤ v4 then some v4 else (fT_get t0 m v4 (0 : Int32)).bind fun r16 => (fH_within r16 v2 v3).bind fun r21 => (if r21 = 0 then some v4 else fO_endOfRun_l3 t0 m n v2 v3 (v4 + 1)))
def fO_endOfRun (t0 : Nat) (m : xM) (v1 : Int32) (v2 : Int32) (v3 : Int32) : Option (Int32) := fO_endOfRun_l3 t0 m xfu v2 v3 v1
set_option maxRecDepth 100000 in
set_option maxHeartbeats 4000000 in
theorem kO_endOfRun_l3 (G : xG) (t0 : Nat) (ht0 : t0 < 36) (z : xM) (m : xM)   : ∀ (n : Nat) (v2 : Int32) (v3 : Int32) (v4 : Int32), xR G yyO_endOfRun (emi (m, z)) 3 [(0, .ref (xa G (36 + t0))), (2, .int v2), (3, .int v3), (4, .int v4)] [] (m, z) (fO_endOfRun_l3 t0 m n v2 v3 v4) := by
  intro n
  induction n with
  | zero =>
    intro v2 v3 v4
    rw [fO_endOfRun_l3]
    exact xR_none
  | succ n ih =>
    intro v2 v3 v4
    rw [fO_endOfRun_l3]
    refine xR_il 3 3 dO_endOfRun_3 rfl ?_
    refine xR_aln 5 0 dO_endOfRun_5 rfl rfl ?_
    refine xR_callVi 6 cv_T_many ml_RX5_24 ⟨Nat.le_of_ble_eq_true rfl, Nat.le_of_ble_eq_true rfl⟩ xcf3 rfl (36 + t0) (xk_T ht0) (xC_tab ht0) [] rfl rfl (Nat.le_of_ble_eq_true rfl) dO_endOfRun_6 (kT_many G t0 ht0 z m) (fun r6 => ?_)
    refine xR_icge 9 33 dO_endOfRun_9 (by decide) ?_ ?_
    · refine xR_il 33 3 dO_endOfRun_33 rfl ?_
      exact xR_iret 35 rfl rfl dO_endOfRun_35
    · refine xR_aln 12 0 dO_endOfRun_12 rfl rfl ?_
      refine xR_il 13 3 dO_endOfRun_13 rfl ?_
      refine xR_ic 15 (0 : Int32) dO_endOfRun_15 (by decide) ?_
      refine xR_callVi 16 cv_T_get ml_RX5_50 ⟨Nat.le_of_ble_eq_true rfl, Nat.le_of_ble_eq_true rfl⟩ xcf3 rfl (36 + t0) (xk_T ht0) (xC_tab ht0) [.int v4, .int (0 : Int32)] rfl rfl (Nat.le_of_ble_eq_true rfl) dO_endOfRun_16 (kT_get G t0 ht0 z m v4 (0 : Int32)) (fun r16 => ?_)
      refine xR_iln 19 1 dO_endOfRun_19 rfl rfl ?_
      refine xR_iln 20 2 dO_endOfRun_20 rfl rfl ?_
      refine xR_callSNi (host := RX8) 21 cs_H_within (by decide +kernel) ⟨Nat.le_of_ble_eq_true rfl, Nat.le_of_ble_eq_true rfl⟩ [.int r16, .int v2, .int v3] rfl rfl (Nat.le_of_ble_eq_true rfl) dO_endOfRun_21 (kH_within G (m, z) r16 v2 v3) (fun r21 => ?_)
      refine xR_ifeq 24 33 dO_endOfRun_24 (by decide) ?_ ?_
      · refine xR_il 33 3 dO_endOfRun_33 rfl ?_
        exact xR_iret 35 rfl rfl dO_endOfRun_35
      · refine xR_iinc 27 3 (v4 + 1) ([(4, .int (v4 + 1)), (0, .ref (xa G (36 + t0))), (2, .int v2), (3, .int v3)]) dO_endOfRun_27 rfl rfl (by decide) rfl ?_
        refine xR_goto 30 3 dO_endOfRun_30 (by decide) ?_
        exact xR_sub [1, 2, 3, 0] rfl (ih v2 v3 (v4 + 1))
set_option maxRecDepth 100000 in
set_option maxHeartbeats 4000000 in
theorem kO_endOfRun (G : xG) (t0 : Nat) (ht0 : t0 < 36) (z : xM) (m : xM) (v1 : Int32) (v2 : Int32) (v3 : Int32) : ∀ a, fO_endOfRun t0 m v1 v2 v3 = some a → xCt G yyO_endOfRun [.ref (xa G (36 + t0)), .int v1, .int v2, .int v3] (m, z) (some (.int a)) (m, z) := by
  refine xR_ct (em := (emi (m, z))) rfl (Nat.le_of_ble_eq_true rfl) ?_
  show xR G yyO_endOfRun _ 0 [(0, .ref (xa G (36 + t0))), (1, .int v1), (2, .int v2), (3, .int v3)] [] _ _
  unfold fO_endOfRun
  refine xR_iln 0 1 dO_endOfRun_0 rfl rfl ?_
  refine xR_is 1 ([(4, .int v1), (0, .ref (xa G (36 + t0))), (1, .int v1), (2, .int v2), (3, .int v3)]) dO_endOfRun_1 (by decide) rfl ?_
  exact xR_sub [1, 3, 4, 0] rfl (kO_endOfRun_l3 G t0 ht0 z m xfu v2 v3 v1)
theorem dO_spells_0 : decode (xb yyO_spells) 0 = .ok (.aload_n 1, 1) := by decide +kernel
theorem dO_spells_1 : decode (xb yyO_spells) 1 = .ok (.invokevirtual 72, 3) := by decide +kernel
theorem dO_spells_4 : decode (xb yyO_spells) 4 = .ok (.iload_n 3, 1) := by decide +kernel
theorem dO_spells_5 : decode (xb yyO_spells) 5 = .ok (.if_icmp .eq 5, 3) := by decide +kernel
theorem dO_spells_8 : decode (xb yyO_spells) 8 = .ok (.iconst 0, 1) := by decide +kernel
theorem dO_spells_9 : decode (xb yyO_spells) 9 = .ok (.ireturn, 1) := by decide +kernel
theorem dO_spells_10 : decode (xb yyO_spells) 10 = .ok (.iconst 0, 1) := by decide +kernel
theorem dO_spells_11 : decode (xb yyO_spells) 11 = .ok (.istore 4, 2) := by decide +kernel
theorem dO_spells_13 : decode (xb yyO_spells) 13 = .ok (.iload 4, 2) := by decide +kernel
theorem dO_spells_15 : decode (xb yyO_spells) 15 = .ok (.iload_n 3, 1) := by decide +kernel
theorem dO_spells_16 : decode (xb yyO_spells) 16 = .ok (.if_icmp .ge 29, 3) := by decide +kernel
theorem dO_spells_19 : decode (xb yyO_spells) 19 = .ok (.aload_n 1, 1) := by decide +kernel
theorem dO_spells_20 : decode (xb yyO_spells) 20 = .ok (.iload 4, 2) := by decide +kernel
theorem dO_spells_22 : decode (xb yyO_spells) 22 = .ok (.invokevirtual 77, 3) := by decide +kernel
theorem dO_spells_25 : decode (xb yyO_spells) 25 = .ok (.aload_n 0, 1) := by decide +kernel
theorem dO_spells_26 : decode (xb yyO_spells) 26 = .ok (.iload_n 2, 1) := by decide +kernel
theorem dO_spells_27 : decode (xb yyO_spells) 27 = .ok (.iload 4, 2) := by decide +kernel
theorem dO_spells_29 : decode (xb yyO_spells) 29 = .ok (.iadd, 1) := by decide +kernel
theorem dO_spells_30 : decode (xb yyO_spells) 30 = .ok (.iconst 0, 1) := by decide +kernel
theorem dO_spells_31 : decode (xb yyO_spells) 31 = .ok (.invokevirtual 50, 3) := by decide +kernel
theorem dO_spells_34 : decode (xb yyO_spells) 34 = .ok (.if_icmp .eq 5, 3) := by decide +kernel
theorem dO_spells_37 : decode (xb yyO_spells) 37 = .ok (.iconst 0, 1) := by decide +kernel
theorem dO_spells_38 : decode (xb yyO_spells) 38 = .ok (.ireturn, 1) := by decide +kernel
theorem dO_spells_39 : decode (xb yyO_spells) 39 = .ok (.iinc 4 1, 3) := by decide +kernel
theorem dO_spells_42 : decode (xb yyO_spells) 42 = .ok (.goto (-29), 3) := by decide +kernel
theorem dO_spells_45 : decode (xb yyO_spells) 45 = .ok (.iconst 1, 1) := by decide +kernel
theorem dO_spells_46 : decode (xb yyO_spells) 46 = .ok (.ireturn, 1) := by decide +kernel
def fO_spells_l13 (t0 : Nat) (t1 : Nat) (m : xM) : Nat → Int32 → Int32 → Int32 → Option (Int32)
  | 0, _, _, _ => none
  | n + 1, v2, v3, v4 => (if v3 ≤ v4 then some (xnb (1 : Int32)) else (fU_charAt t1 v4).bind fun r22 => (fT_get t0 m (v2 + v4) (0 : Int32)).bind fun r31 => (if r22 = r31 then fO_spells_l13 t0 t1 m n v2 v3 (v4 + 1) else some (xnb (0 : Int32))))
def fO_spells (t0 : Nat) (t1 : Nat) (m : xM) (v2 : Int32) (v3 : Int32) : Option (Int32) := (fU_length t1).bind fun r1 => (if r1 = v3 then fO_spells_l13 t0 t1 m xfu v2 v3 (0 : Int32) else some (xnb (0 : Int32)))
set_option maxRecDepth 100000 in
set_option maxHeartbeats 4000000 in
theorem kO_spells_l13 (G : xG) (t0 : Nat) (t1 : Nat) (ht0 : t0 < 36) (ht1 : t1 < 7) (z : xM) (m : xM)   : ∀ (n : Nat) (v2 : Int32) (v3 : Int32) (v4 : Int32), xR G yyO_spells (emi (m, z)) 13 [(0, .ref (xa G (36 + t0))), (1, .ref (xa G (100 + t1))), (2, .int v2), (3, .int v3), (4, .int v4)] [] (m, z) (fO_spells_l13 t0 t1 m n v2 v3 v4) := by
  intro n
  induction n with
  | zero =>
    intro v2 v3 v4
    rw [fO_spells_l13]
    exact xR_none
  | succ n ih =>
    intro v2 v3 v4
    rw [fO_spells_l13]
    refine xR_il 13 4 dO_spells_13 rfl ?_
    refine xR_iln 15 3 dO_spells_15 rfl rfl ?_
    refine xR_icge 16 45 dO_spells_16 (by decide) ?_ ?_
    · refine xR_ic 45 (1 : Int32) dO_spells_45 (by decide) ?_
      exact xR_zret 46 rfl rfl dO_spells_46
    · refine xR_aln 19 1 dO_spells_19 rfl rfl ?_
      refine xR_il 20 4 dO_spells_20 rfl ?_
      refine xR_callQi 22 cv_U_charAt ml_RX5_77 ⟨Nat.le_of_ble_eq_true rfl, Nat.le_of_ble_eq_true rfl⟩ rfl t1 ht1 [.int v4] rfl rfl (Nat.le_of_ble_eq_true rfl) dO_spells_22 (kU_charAt G t1 ht1 (m, z) v4) (fun r22 => ?_)
      refine xR_aln 25 0 dO_spells_25 rfl rfl ?_
      refine xR_iln 26 2 dO_spells_26 rfl rfl ?_
      refine xR_il 27 4 dO_spells_27 rfl ?_
      refine xR_iadd 29 dO_spells_29 ?_
      refine xR_ic 30 (0 : Int32) dO_spells_30 (by decide) ?_
      refine xR_callVi 31 cv_T_get ml_RX5_50 ⟨Nat.le_of_ble_eq_true rfl, Nat.le_of_ble_eq_true rfl⟩ xcf3 rfl (36 + t0) (xk_T ht0) (xC_tab ht0) [.int (v2 + v4), .int (0 : Int32)] rfl rfl (Nat.le_of_ble_eq_true rfl) dO_spells_31 (kT_get G t0 ht0 z m (v2 + v4) (0 : Int32)) (fun r31 => ?_)
      refine xR_iceq 34 39 dO_spells_34 (by decide) ?_ ?_
      · refine xR_iinc 39 4 (v4 + 1) ([(4, .int (v4 + 1)), (0, .ref (xa G (36 + t0))), (1, .ref (xa G (100 + t1))), (2, .int v2), (3, .int v3)]) dO_spells_39 rfl rfl (by decide) rfl ?_
        refine xR_goto 42 13 dO_spells_42 (by decide) ?_
        exact xR_sub [1, 2, 3, 4, 0] rfl (ih v2 v3 (v4 + 1))
      · refine xR_ic 37 (0 : Int32) dO_spells_37 (by decide) ?_
        exact xR_zret 38 rfl rfl dO_spells_38
set_option maxRecDepth 100000 in
set_option maxHeartbeats 4000000 in
theorem kO_spells (G : xG) (t0 : Nat) (t1 : Nat) (ht0 : t0 < 36) (ht1 : t1 < 7) (z : xM) (m : xM) (v2 : Int32) (v3 : Int32) : ∀ a, fO_spells t0 t1 m v2 v3 = some a → xCt G yyO_spells [.ref (xa G (36 + t0)), .ref (xa G (100 + t1)), .int v2, .int v3] (m, z) (some (.int a)) (m, z) := by
  refine xR_ct (em := (emi (m, z))) rfl (Nat.le_of_ble_eq_true rfl) ?_
  show xR G yyO_spells _ 0 [(0, .ref (xa G (36 + t0))), (1, .ref (xa G (100 + t1))), (2, .int v2), (3, .int v3)] [] _ _
  unfold fO_spells
  refine xR_aln 0 1 dO_spells_0 rfl rfl ?_
  refine xR_callQi 1 cv_U_length ml_RX5_72 ⟨Nat.le_of_ble_eq_true rfl, Nat.le_of_ble_eq_true rfl⟩ rfl t1 ht1 [] rfl rfl (Nat.le_of_ble_eq_true rfl) dO_spells_1 (kU_length G t1 ht1 (m, z)) (fun r1 => ?_)
  refine xR_iln 4 3 dO_spells_4 rfl rfl ?_
  refine xR_iceq 5 10 dO_spells_5 (by decide) ?_ ?_
  · refine xR_ic 10 (0 : Int32) dO_spells_10 (by decide) ?_
    refine xR_is 11 ([(4, .int (0 : Int32)), (0, .ref (xa G (36 + t0))), (1, .ref (xa G (100 + t1))), (2, .int v2), (3, .int v3)]) dO_spells_11 (by decide) rfl ?_
    exact xR_sub [1, 2, 3, 4, 0] rfl (kO_spells_l13 G t0 t1 ht0 ht1 z m xfu v2 v3 (0 : Int32))
  · refine xR_ic 8 (0 : Int32) dO_spells_8 (by decide) ?_
    exact xR_zret 9 rfl rfl dO_spells_9
theorem dO_wordNumber_0 : decode (xb yyO_wordNumber) 0 = .ok (.iconst 0, 1) := by decide +kernel
theorem dO_wordNumber_1 : decode (xb yyO_wordNumber) 1 = .ok (.istore_n 3, 1) := by decide +kernel
theorem dO_wordNumber_2 : decode (xb yyO_wordNumber) 2 = .ok (.iload_n 3, 1) := by decide +kernel
theorem dO_wordNumber_3 : decode (xb yyO_wordNumber) 3 = .ok (.bipush 7, 2) := by decide +kernel
theorem dO_wordNumber_5 : decode (xb yyO_wordNumber) 5 = .ok (.if_icmp .ge 24, 3) := by decide +kernel
theorem dO_wordNumber_8 : decode (xb yyO_wordNumber) 8 = .ok (.aload_n 0, 1) := by decide +kernel
theorem dO_wordNumber_9 : decode (xb yyO_wordNumber) 9 = .ok (.iload_n 3, 1) := by decide +kernel
theorem dO_wordNumber_10 : decode (xb yyO_wordNumber) 10 = .ok (.invokestatic 64, 3) := by decide +kernel
theorem dO_wordNumber_13 : decode (xb yyO_wordNumber) 13 = .ok (.iload_n 1, 1) := by decide +kernel
theorem dO_wordNumber_14 : decode (xb yyO_wordNumber) 14 = .ok (.iload_n 2, 1) := by decide +kernel
theorem dO_wordNumber_15 : decode (xb yyO_wordNumber) 15 = .ok (.invokestatic 68, 3) := by decide +kernel
theorem dO_wordNumber_18 : decode (xb yyO_wordNumber) 18 = .ok (.ifCond .eq 5, 3) := by decide +kernel
theorem dO_wordNumber_21 : decode (xb yyO_wordNumber) 21 = .ok (.iload_n 3, 1) := by decide +kernel
theorem dO_wordNumber_22 : decode (xb yyO_wordNumber) 22 = .ok (.ireturn, 1) := by decide +kernel
theorem dO_wordNumber_23 : decode (xb yyO_wordNumber) 23 = .ok (.iinc 3 1, 3) := by decide +kernel
theorem dO_wordNumber_26 : decode (xb yyO_wordNumber) 26 = .ok (.goto (-24), 3) := by decide +kernel
theorem dO_wordNumber_29 : decode (xb yyO_wordNumber) 29 = .ok (.iconst (-1), 1) := by decide +kernel
theorem dO_wordNumber_30 : decode (xb yyO_wordNumber) 30 = .ok (.ireturn, 1) := by decide +kernel
def fO_wordNumber_l2 (t0 : Nat) (m : xM) : Nat → Int32 → Int32 → Int32 → Option (Int32)
  | 0, _, _, _ => none
  | n + 1, v1, v2, v3 => (if (7 : Int32) ≤ v3 then some (-1 : Int32) else (fO_textOf v3).bind fun r10 => xlt7 r10 ((fO_spells t0 r10 m v1 v2).bind fun r15 => (if r15 = 0 then fO_wordNumber_l2 t0 m n v1 v2 (v3 + 1) else some v3)))
def fO_wordNumber (t0 : Nat) (m : xM) (v1 : Int32) (v2 : Int32) : Option (Int32) := fO_wordNumber_l2 t0 m xfu v1 v2 (0 : Int32)
set_option maxRecDepth 100000 in
set_option maxHeartbeats 4000000 in
theorem kO_wordNumber_l2 (G : xG) (t0 : Nat) (ht0 : t0 < 36) (z : xM) (m : xM)   : ∀ (n : Nat) (v1 : Int32) (v2 : Int32) (v3 : Int32), xR G yyO_wordNumber (emi (m, z)) 2 [(0, .ref (xa G (36 + t0))), (1, .int v1), (2, .int v2), (3, .int v3)] [] (m, z) (fO_wordNumber_l2 t0 m n v1 v2 v3) := by
  intro n
  induction n with
  | zero =>
    intro v1 v2 v3
    rw [fO_wordNumber_l2]
    exact xR_none
  | succ n ih =>
    intro v1 v2 v3
    rw [fO_wordNumber_l2]
    refine xR_iln 2 3 dO_wordNumber_2 rfl rfl ?_
    refine xR_bp 3 (7 : Int32) dO_wordNumber_3 (by decide) ?_
    refine xR_icge 5 29 dO_wordNumber_5 (by decide) ?_ ?_
    · refine xR_ic 29 (-1 : Int32) dO_wordNumber_29 (by decide) ?_
      exact xR_iret 30 rfl rfl dO_wordNumber_30
    · refine xR_aln 8 0 dO_wordNumber_8 rfl rfl ?_
      refine xR_iln 9 3 dO_wordNumber_9 rfl rfl ?_
      refine xR_callSq 10 cs_O_textOf ml_RX5_64 ⟨Nat.le_of_ble_eq_true rfl, Nat.le_of_ble_eq_true rfl⟩ [.int v3] rfl rfl (Nat.le_of_ble_eq_true rfl) dO_wordNumber_10 (kO_textOf G (m, z) v3) (fun r10 => ?_)
      refine xR_lt7 (fun hq10 => ?_)
      refine xR_iln 13 1 dO_wordNumber_13 rfl rfl ?_
      refine xR_iln 14 2 dO_wordNumber_14 rfl rfl ?_
      refine xR_callSi 15 cs_O_spells ml_RX5_68 ⟨Nat.le_of_ble_eq_true rfl, Nat.le_of_ble_eq_true rfl⟩ [.ref (xa G (36 + t0)), .ref (xa G (100 + r10)), .int v1, .int v2] rfl rfl (Nat.le_of_ble_eq_true rfl) dO_wordNumber_15 (kO_spells G t0 r10 ht0 hq10 z m v1 v2) (fun r15 => ?_)
      refine xR_ifeq 18 23 dO_wordNumber_18 (by decide) ?_ ?_
      · refine xR_iinc 23 3 (v3 + 1) ([(3, .int (v3 + 1)), (0, .ref (xa G (36 + t0))), (1, .int v1), (2, .int v2)]) dO_wordNumber_23 rfl rfl (by decide) rfl ?_
        refine xR_goto 26 2 dO_wordNumber_26 (by decide) ?_
        exact xR_sub [1, 2, 3, 0] rfl (ih v1 v2 (v3 + 1))
      · refine xR_iln 21 3 dO_wordNumber_21 rfl rfl ?_
        exact xR_iret 22 rfl rfl dO_wordNumber_22
set_option maxRecDepth 100000 in
set_option maxHeartbeats 4000000 in
theorem kO_wordNumber (G : xG) (t0 : Nat) (ht0 : t0 < 36) (z : xM) (m : xM) (v1 : Int32) (v2 : Int32) : ∀ a, fO_wordNumber t0 m v1 v2 = some a → xCt G yyO_wordNumber [.ref (xa G (36 + t0)), .int v1, .int v2] (m, z) (some (.int a)) (m, z) := by
  refine xR_ct (em := (emi (m, z))) rfl (Nat.le_of_ble_eq_true rfl) ?_
  show xR G yyO_wordNumber _ 0 [(0, .ref (xa G (36 + t0))), (1, .int v1), (2, .int v2)] [] _ _
  unfold fO_wordNumber
  refine xR_ic 0 (0 : Int32) dO_wordNumber_0 (by decide) ?_
  refine xR_isn 1 ([(3, .int (0 : Int32)), (0, .ref (xa G (36 + t0))), (1, .int v1), (2, .int v2)]) dO_wordNumber_1 rfl (by decide) rfl ?_
  exact xR_sub [1, 2, 3, 0] rfl (kO_wordNumber_l2 G t0 ht0 z m xfu v1 v2 (0 : Int32))
theorem dO_add_0 : decode (xb yyO_add) 0 = .ok (.aload_n 0, 1) := by decide +kernel
theorem dO_add_1 : decode (xb yyO_add) 1 = .ok (.getfield 14, 3) := by decide +kernel
theorem dO_add_4 : decode (xb yyO_add) 4 = .ok (.invokevirtual 54, 3) := by decide +kernel
theorem dO_add_7 : decode (xb yyO_add) 7 = .ok (.istore 4, 2) := by decide +kernel
theorem dO_add_9 : decode (xb yyO_add) 9 = .ok (.aload_n 0, 1) := by decide +kernel
theorem dO_add_10 : decode (xb yyO_add) 10 = .ok (.getfield 14, 3) := by decide +kernel
theorem dO_add_13 : decode (xb yyO_add) 13 = .ok (.iload 4, 2) := by decide +kernel
theorem dO_add_15 : decode (xb yyO_add) 15 = .ok (.iconst 0, 1) := by decide +kernel
theorem dO_add_16 : decode (xb yyO_add) 16 = .ok (.iload_n 1, 1) := by decide +kernel
theorem dO_add_17 : decode (xb yyO_add) 17 = .ok (.invokevirtual 57, 3) := by decide +kernel
theorem dO_add_20 : decode (xb yyO_add) 20 = .ok (.aload_n 0, 1) := by decide +kernel
theorem dO_add_21 : decode (xb yyO_add) 21 = .ok (.getfield 14, 3) := by decide +kernel
theorem dO_add_24 : decode (xb yyO_add) 24 = .ok (.iload 4, 2) := by decide +kernel
theorem dO_add_26 : decode (xb yyO_add) 26 = .ok (.iconst 1, 1) := by decide +kernel
theorem dO_add_27 : decode (xb yyO_add) 27 = .ok (.iload_n 2, 1) := by decide +kernel
theorem dO_add_28 : decode (xb yyO_add) 28 = .ok (.invokevirtual 57, 3) := by decide +kernel
theorem dO_add_31 : decode (xb yyO_add) 31 = .ok (.aload_n 0, 1) := by decide +kernel
theorem dO_add_32 : decode (xb yyO_add) 32 = .ok (.getfield 14, 3) := by decide +kernel
theorem dO_add_35 : decode (xb yyO_add) 35 = .ok (.iload 4, 2) := by decide +kernel
theorem dO_add_37 : decode (xb yyO_add) 37 = .ok (.iconst 2, 1) := by decide +kernel
theorem dO_add_38 : decode (xb yyO_add) 38 = .ok (.iload_n 3, 1) := by decide +kernel
theorem dO_add_39 : decode (xb yyO_add) 39 = .ok (.invokevirtual 57, 3) := by decide +kernel
theorem dO_add_42 : decode (xb yyO_add) 42 = .ok (.return_, 1) := by decide +kernel
def fO_add  (v1 : Int32) (v2 : Int32) (v3 : Int32) (m : xM) : Option (xM) := (fT_newRow 30 m).bind fun r4 => (fT_put 30 r4.1 (0 : Int32) v1 r4.2).bind fun r17 => (fT_put 30 r4.1 (1 : Int32) v2 r17).bind fun r28 => (fT_put 30 r4.1 (2 : Int32) v3 r28).bind fun r39 => some r39
set_option maxRecDepth 100000 in
set_option maxHeartbeats 4000000 in
theorem kO_add (G : xG)   (z : xM) (m : xM) (v1 : Int32) (v2 : Int32) (v3 : Int32) : ∀ a, fO_add  v1 v2 v3 m = some a → xCt G yyO_add [.ref (xa G 84), .int v1, .int v2, .int v3] (m, z) (none) (a, z) := by
  refine xR_ct (em := (emvc z)) rfl (Nat.le_of_ble_eq_true rfl) ?_
  show xR G yyO_add _ 0 [(0, .ref (xa G 84)), (1, .int v1), (2, .int v2), (3, .int v3)] [] _ _
  unfold fO_add
  refine xR_aln 0 0 dO_add_0 rfl rfl ?_
  refine xR_getf 1 xcf4 0 84 (by decide) (by decide) rfl (v := .ref (xa G 66)) rfl fl_RX5_14 dO_add_1 ?_
  refine xR_callVic 4 cv_T_newRow ml_RX5_54 ⟨Nat.le_of_ble_eq_true rfl, Nat.le_of_ble_eq_true rfl⟩ xcf3 rfl 66 (by decide) (xC_tab (t := 30) (by decide)) [] rfl rfl (Nat.le_of_ble_eq_true rfl) dO_add_4 (kT_newRow G 30 (by decide) z m) (fun r4 => ?_)
  refine xR_is 7 ([(4, .int r4.1), (0, .ref (xa G 84)), (1, .int v1), (2, .int v2), (3, .int v3)]) dO_add_7 (by decide) rfl ?_
  refine xR_aln 9 1 dO_add_9 rfl rfl ?_
  refine xR_getf 10 xcf4 0 84 (by decide) (by decide) rfl (v := .ref (xa G 66)) rfl fl_RX5_14 dO_add_10 ?_
  refine xR_il 13 0 dO_add_13 rfl ?_
  refine xR_ic 15 (0 : Int32) dO_add_15 (by decide) ?_
  refine xR_iln 16 2 dO_add_16 rfl rfl ?_
  refine xR_callVvc 17 cv_T_put ml_RX5_57 ⟨Nat.le_of_ble_eq_true rfl, Nat.le_of_ble_eq_true rfl⟩ xcf3 rfl 66 (by decide) (xC_tab (t := 30) (by decide)) [.int r4.1, .int (0 : Int32), .int v1] rfl rfl (Nat.le_of_ble_eq_true rfl) dO_add_17 (kT_put G 30 (by decide) z r4.2 r4.1 (0 : Int32) v1) (fun r17 => ?_)
  refine xR_aln 20 1 dO_add_20 rfl rfl ?_
  refine xR_getf 21 xcf4 0 84 (by decide) (by decide) rfl (v := .ref (xa G 66)) rfl fl_RX5_14 dO_add_21 ?_
  refine xR_il 24 0 dO_add_24 rfl ?_
  refine xR_ic 26 (1 : Int32) dO_add_26 (by decide) ?_
  refine xR_iln 27 3 dO_add_27 rfl rfl ?_
  refine xR_callVvc 28 cv_T_put ml_RX5_57 ⟨Nat.le_of_ble_eq_true rfl, Nat.le_of_ble_eq_true rfl⟩ xcf3 rfl 66 (by decide) (xC_tab (t := 30) (by decide)) [.int r4.1, .int (1 : Int32), .int v2] rfl rfl (Nat.le_of_ble_eq_true rfl) dO_add_28 (kT_put G 30 (by decide) z r17 r4.1 (1 : Int32) v2) (fun r28 => ?_)
  refine xR_aln 31 1 dO_add_31 rfl rfl ?_
  refine xR_getf 32 xcf4 0 84 (by decide) (by decide) rfl (v := .ref (xa G 66)) rfl fl_RX5_14 dO_add_32 ?_
  refine xR_il 35 0 dO_add_35 rfl ?_
  refine xR_ic 37 (2 : Int32) dO_add_37 (by decide) ?_
  refine xR_iln 38 4 dO_add_38 rfl rfl ?_
  refine xR_callVvc 39 cv_T_put ml_RX5_57 ⟨Nat.le_of_ble_eq_true rfl, Nat.le_of_ble_eq_true rfl⟩ xcf3 rfl 66 (by decide) (xC_tab (t := 30) (by decide)) [.int r4.1, .int (2 : Int32), .int v3] rfl rfl (Nat.le_of_ble_eq_true rfl) dO_add_39 (kT_put G 30 (by decide) z r28 r4.1 (2 : Int32) v3) (fun r39 => ?_)
  exact xR_vret 42 rfl rfl dO_add_42
theorem dO_numberAt_0 : decode (xb yyO_numberAt) 0 = .ok (.aload_n 0, 1) := by decide +kernel
theorem dO_numberAt_1 : decode (xb yyO_numberAt) 1 = .ok (.iload_n 1, 1) := by decide +kernel
theorem dO_numberAt_2 : decode (xb yyO_numberAt) 2 = .ok (.iconst 0, 1) := by decide +kernel
theorem dO_numberAt_3 : decode (xb yyO_numberAt) 3 = .ok (.invokevirtual 50, 3) := by decide +kernel
theorem dO_numberAt_6 : decode (xb yyO_numberAt) 6 = .ok (.bipush 48, 2) := by decide +kernel
theorem dO_numberAt_8 : decode (xb yyO_numberAt) 8 = .ok (.isub, 1) := by decide +kernel
theorem dO_numberAt_9 : decode (xb yyO_numberAt) 9 = .ok (.istore_n 3, 1) := by decide +kernel
theorem dO_numberAt_10 : decode (xb yyO_numberAt) 10 = .ok (.iload_n 2, 1) := by decide +kernel
theorem dO_numberAt_11 : decode (xb yyO_numberAt) 11 = .ok (.iconst 1, 1) := by decide +kernel
theorem dO_numberAt_12 : decode (xb yyO_numberAt) 12 = .ok (.if_icmp .ne 7, 3) := by decide +kernel
theorem dO_numberAt_15 : decode (xb yyO_numberAt) 15 = .ok (.iload_n 3, 1) := by decide +kernel
theorem dO_numberAt_16 : decode (xb yyO_numberAt) 16 = .ok (.goto 19, 3) := by decide +kernel
theorem dO_numberAt_19 : decode (xb yyO_numberAt) 19 = .ok (.bipush 10, 2) := by decide +kernel
theorem dO_numberAt_21 : decode (xb yyO_numberAt) 21 = .ok (.iload_n 3, 1) := by decide +kernel
theorem dO_numberAt_22 : decode (xb yyO_numberAt) 22 = .ok (.imul, 1) := by decide +kernel
theorem dO_numberAt_23 : decode (xb yyO_numberAt) 23 = .ok (.aload_n 0, 1) := by decide +kernel
theorem dO_numberAt_24 : decode (xb yyO_numberAt) 24 = .ok (.iload_n 1, 1) := by decide +kernel
theorem dO_numberAt_25 : decode (xb yyO_numberAt) 25 = .ok (.iconst 1, 1) := by decide +kernel
theorem dO_numberAt_26 : decode (xb yyO_numberAt) 26 = .ok (.iadd, 1) := by decide +kernel
theorem dO_numberAt_27 : decode (xb yyO_numberAt) 27 = .ok (.iconst 0, 1) := by decide +kernel
theorem dO_numberAt_28 : decode (xb yyO_numberAt) 28 = .ok (.invokevirtual 50, 3) := by decide +kernel
theorem dO_numberAt_31 : decode (xb yyO_numberAt) 31 = .ok (.iadd, 1) := by decide +kernel
theorem dO_numberAt_32 : decode (xb yyO_numberAt) 32 = .ok (.bipush 48, 2) := by decide +kernel
theorem dO_numberAt_34 : decode (xb yyO_numberAt) 34 = .ok (.isub, 1) := by decide +kernel
theorem dO_numberAt_35 : decode (xb yyO_numberAt) 35 = .ok (.ireturn, 1) := by decide +kernel
def fO_numberAt (t0 : Nat) (m : xM) (v1 : Int32) (v2 : Int32) : Option (Int32) := (fT_get t0 m v1 (0 : Int32)).bind fun r3 => (if v2 = (1 : Int32) then some (r3 - (48 : Int32)) else (fT_get t0 m (v1 + (1 : Int32)) (0 : Int32)).bind fun r28 => some ((((10 : Int32) * (r3 - (48 : Int32))) + r28) - (48 : Int32)))
set_option maxRecDepth 100000 in
set_option maxHeartbeats 4000000 in
theorem kO_numberAt (G : xG) (t0 : Nat) (ht0 : t0 < 36) (z : xM) (m : xM) (v1 : Int32) (v2 : Int32) : ∀ a, fO_numberAt t0 m v1 v2 = some a → xCt G yyO_numberAt [.ref (xa G (36 + t0)), .int v1, .int v2] (m, z) (some (.int a)) (m, z) := by
  refine xR_ct (em := (emi (m, z))) rfl (Nat.le_of_ble_eq_true rfl) ?_
  show xR G yyO_numberAt _ 0 [(0, .ref (xa G (36 + t0))), (1, .int v1), (2, .int v2)] [] _ _
  unfold fO_numberAt
  refine xR_aln 0 0 dO_numberAt_0 rfl rfl ?_
  refine xR_iln 1 1 dO_numberAt_1 rfl rfl ?_
  refine xR_ic 2 (0 : Int32) dO_numberAt_2 (by decide) ?_
  refine xR_callVi 3 cv_T_get ml_RX5_50 ⟨Nat.le_of_ble_eq_true rfl, Nat.le_of_ble_eq_true rfl⟩ xcf3 rfl (36 + t0) (xk_T ht0) (xC_tab ht0) [.int v1, .int (0 : Int32)] rfl rfl (Nat.le_of_ble_eq_true rfl) dO_numberAt_3 (kT_get G t0 ht0 z m v1 (0 : Int32)) (fun r3 => ?_)
  refine xR_bp 6 (48 : Int32) dO_numberAt_6 (by decide) ?_
  refine xR_isub 8 dO_numberAt_8 ?_
  refine xR_isn 9 ([(3, .int (r3 - (48 : Int32))), (0, .ref (xa G (36 + t0))), (1, .int v1), (2, .int v2)]) dO_numberAt_9 rfl (by decide) rfl ?_
  refine xR_iln 10 3 dO_numberAt_10 rfl rfl ?_
  refine xR_ic 11 (1 : Int32) dO_numberAt_11 (by decide) ?_
  refine xR_icne 12 19 dO_numberAt_12 (by decide) ?_ ?_
  · refine xR_bp 19 (10 : Int32) dO_numberAt_19 (by decide) ?_
    refine xR_iln 21 0 dO_numberAt_21 rfl rfl ?_
    refine xR_imul 22 dO_numberAt_22 ?_
    refine xR_aln 23 1 dO_numberAt_23 rfl rfl ?_
    refine xR_iln 24 2 dO_numberAt_24 rfl rfl ?_
    refine xR_ic 25 (1 : Int32) dO_numberAt_25 (by decide) ?_
    refine xR_iadd 26 dO_numberAt_26 ?_
    refine xR_ic 27 (0 : Int32) dO_numberAt_27 (by decide) ?_
    refine xR_callVi 28 cv_T_get ml_RX5_50 ⟨Nat.le_of_ble_eq_true rfl, Nat.le_of_ble_eq_true rfl⟩ xcf3 rfl (36 + t0) (xk_T ht0) (xC_tab ht0) [.int (v1 + (1 : Int32)), .int (0 : Int32)] rfl rfl (Nat.le_of_ble_eq_true rfl) dO_numberAt_28 (kT_get G t0 ht0 z m (v1 + (1 : Int32)) (0 : Int32)) (fun r28 => ?_)
    refine xR_iadd 31 dO_numberAt_31 ?_
    refine xR_bp 32 (48 : Int32) dO_numberAt_32 (by decide) ?_
    refine xR_isub 34 dO_numberAt_34 ?_
    exact xR_iret 35 rfl rfl dO_numberAt_35
  · refine xR_iln 15 0 dO_numberAt_15 rfl rfl ?_
    refine xR_goto 16 35 dO_numberAt_16 (by decide) ?_
    exact xR_iret 35 rfl rfl dO_numberAt_35
theorem dO_splitOne_0 : decode (xb yyO_splitOne) 0 = .ok (.aload_n 1, 1) := by decide +kernel
theorem dO_splitOne_1 : decode (xb yyO_splitOne) 1 = .ok (.iload_n 2, 1) := by decide +kernel
theorem dO_splitOne_2 : decode (xb yyO_splitOne) 2 = .ok (.bipush 97, 2) := by decide +kernel
theorem dO_splitOne_4 : decode (xb yyO_splitOne) 4 = .ok (.bipush 122, 2) := by decide +kernel
theorem dO_splitOne_6 : decode (xb yyO_splitOne) 6 = .ok (.invokestatic 31, 3) := by decide +kernel
theorem dO_splitOne_9 : decode (xb yyO_splitOne) 9 = .ok (.istore_n 3, 1) := by decide +kernel
theorem dO_splitOne_10 : decode (xb yyO_splitOne) 10 = .ok (.iload_n 3, 1) := by decide +kernel
theorem dO_splitOne_11 : decode (xb yyO_splitOne) 11 = .ok (.iload_n 2, 1) := by decide +kernel
theorem dO_splitOne_12 : decode (xb yyO_splitOne) 12 = .ok (.if_icmp .le 19, 3) := by decide +kernel
theorem dO_splitOne_15 : decode (xb yyO_splitOne) 15 = .ok (.aload_n 0, 1) := by decide +kernel
theorem dO_splitOne_16 : decode (xb yyO_splitOne) 16 = .ok (.iconst 0, 1) := by decide +kernel
theorem dO_splitOne_17 : decode (xb yyO_splitOne) 17 = .ok (.iload_n 2, 1) := by decide +kernel
theorem dO_splitOne_18 : decode (xb yyO_splitOne) 18 = .ok (.aload_n 1, 1) := by decide +kernel
theorem dO_splitOne_19 : decode (xb yyO_splitOne) 19 = .ok (.iload_n 2, 1) := by decide +kernel
theorem dO_splitOne_20 : decode (xb yyO_splitOne) 20 = .ok (.iload_n 3, 1) := by decide +kernel
theorem dO_splitOne_21 : decode (xb yyO_splitOne) 21 = .ok (.iload_n 2, 1) := by decide +kernel
theorem dO_splitOne_22 : decode (xb yyO_splitOne) 22 = .ok (.isub, 1) := by decide +kernel
theorem dO_splitOne_23 : decode (xb yyO_splitOne) 23 = .ok (.invokestatic 43, 3) := by decide +kernel
theorem dO_splitOne_26 : decode (xb yyO_splitOne) 26 = .ok (.invokevirtual 39, 3) := by decide +kernel
theorem dO_splitOne_29 : decode (xb yyO_splitOne) 29 = .ok (.iload_n 3, 1) := by decide +kernel
theorem dO_splitOne_30 : decode (xb yyO_splitOne) 30 = .ok (.ireturn, 1) := by decide +kernel
theorem dO_splitOne_31 : decode (xb yyO_splitOne) 31 = .ok (.aload_n 1, 1) := by decide +kernel
theorem dO_splitOne_32 : decode (xb yyO_splitOne) 32 = .ok (.iload_n 2, 1) := by decide +kernel
theorem dO_splitOne_33 : decode (xb yyO_splitOne) 33 = .ok (.bipush 48, 2) := by decide +kernel
theorem dO_splitOne_35 : decode (xb yyO_splitOne) 35 = .ok (.bipush 57, 2) := by decide +kernel
theorem dO_splitOne_37 : decode (xb yyO_splitOne) 37 = .ok (.invokestatic 31, 3) := by decide +kernel
theorem dO_splitOne_40 : decode (xb yyO_splitOne) 40 = .ok (.istore 4, 2) := by decide +kernel
theorem dO_splitOne_42 : decode (xb yyO_splitOne) 42 = .ok (.iload 4, 2) := by decide +kernel
theorem dO_splitOne_44 : decode (xb yyO_splitOne) 44 = .ok (.iload_n 2, 1) := by decide +kernel
theorem dO_splitOne_45 : decode (xb yyO_splitOne) 45 = .ok (.if_icmp .le 33, 3) := by decide +kernel
theorem dO_splitOne_48 : decode (xb yyO_splitOne) 48 = .ok (.aload_n 0, 1) := by decide +kernel
theorem dO_splitOne_49 : decode (xb yyO_splitOne) 49 = .ok (.iload 4, 2) := by decide +kernel
theorem dO_splitOne_51 : decode (xb yyO_splitOne) 51 = .ok (.iload_n 2, 1) := by decide +kernel
theorem dO_splitOne_52 : decode (xb yyO_splitOne) 52 = .ok (.isub, 1) := by decide +kernel
theorem dO_splitOne_53 : decode (xb yyO_splitOne) 53 = .ok (.iconst 2, 1) := by decide +kernel
theorem dO_splitOne_54 : decode (xb yyO_splitOne) 54 = .ok (.if_icmp .le 7, 3) := by decide +kernel
theorem dO_splitOne_57 : decode (xb yyO_splitOne) 57 = .ok (.iconst 4, 1) := by decide +kernel
theorem dO_splitOne_58 : decode (xb yyO_splitOne) 58 = .ok (.goto 4, 3) := by decide +kernel
theorem dO_splitOne_61 : decode (xb yyO_splitOne) 61 = .ok (.iconst 1, 1) := by decide +kernel
theorem dO_splitOne_62 : decode (xb yyO_splitOne) 62 = .ok (.iload_n 2, 1) := by decide +kernel
theorem dO_splitOne_63 : decode (xb yyO_splitOne) 63 = .ok (.aload_n 1, 1) := by decide +kernel
theorem dO_splitOne_64 : decode (xb yyO_splitOne) 64 = .ok (.iload_n 2, 1) := by decide +kernel
theorem dO_splitOne_65 : decode (xb yyO_splitOne) 65 = .ok (.iload 4, 2) := by decide +kernel
theorem dO_splitOne_67 : decode (xb yyO_splitOne) 67 = .ok (.iload_n 2, 1) := by decide +kernel
theorem dO_splitOne_68 : decode (xb yyO_splitOne) 68 = .ok (.isub, 1) := by decide +kernel
theorem dO_splitOne_69 : decode (xb yyO_splitOne) 69 = .ok (.invokestatic 47, 3) := by decide +kernel
theorem dO_splitOne_72 : decode (xb yyO_splitOne) 72 = .ok (.invokevirtual 39, 3) := by decide +kernel
theorem dO_splitOne_75 : decode (xb yyO_splitOne) 75 = .ok (.iload 4, 2) := by decide +kernel
theorem dO_splitOne_77 : decode (xb yyO_splitOne) 77 = .ok (.ireturn, 1) := by decide +kernel
theorem dO_splitOne_78 : decode (xb yyO_splitOne) 78 = .ok (.aload_n 0, 1) := by decide +kernel
theorem dO_splitOne_79 : decode (xb yyO_splitOne) 79 = .ok (.aload_n 1, 1) := by decide +kernel
theorem dO_splitOne_80 : decode (xb yyO_splitOne) 80 = .ok (.iload_n 2, 1) := by decide +kernel
theorem dO_splitOne_81 : decode (xb yyO_splitOne) 81 = .ok (.iconst 0, 1) := by decide +kernel
theorem dO_splitOne_82 : decode (xb yyO_splitOne) 82 = .ok (.invokevirtual 50, 3) := by decide +kernel
theorem dO_splitOne_85 : decode (xb yyO_splitOne) 85 = .ok (.bipush 59, 2) := by decide +kernel
theorem dO_splitOne_87 : decode (xb yyO_splitOne) 87 = .ok (.if_icmp .ne 7, 3) := by decide +kernel
theorem dO_splitOne_90 : decode (xb yyO_splitOne) 90 = .ok (.iconst 2, 1) := by decide +kernel
theorem dO_splitOne_91 : decode (xb yyO_splitOne) 91 = .ok (.goto 4, 3) := by decide +kernel
theorem dO_splitOne_94 : decode (xb yyO_splitOne) 94 = .ok (.iconst 4, 1) := by decide +kernel
theorem dO_splitOne_95 : decode (xb yyO_splitOne) 95 = .ok (.iload_n 2, 1) := by decide +kernel
theorem dO_splitOne_96 : decode (xb yyO_splitOne) 96 = .ok (.iconst (-1), 1) := by decide +kernel
theorem dO_splitOne_97 : decode (xb yyO_splitOne) 97 = .ok (.invokevirtual 39, 3) := by decide +kernel
theorem dO_splitOne_100 : decode (xb yyO_splitOne) 100 = .ok (.iload_n 2, 1) := by decide +kernel
theorem dO_splitOne_101 : decode (xb yyO_splitOne) 101 = .ok (.iconst 1, 1) := by decide +kernel
theorem dO_splitOne_102 : decode (xb yyO_splitOne) 102 = .ok (.iadd, 1) := by decide +kernel
theorem dO_splitOne_103 : decode (xb yyO_splitOne) 103 = .ok (.ireturn, 1) := by decide +kernel
def fO_splitOne_b62 (t1 : Nat) (v2 : Int32) (v4 : Int32) (s0 : Int32) (m : xM) : Option (Int32 × xM) := (fO_numberAt t1 m v2 (v4 - v2)).bind fun r69 => (fO_add s0 v2 r69 m).bind fun r72 => some (v4, r72)
def fO_splitOne (t1 : Nat) (v2 : Int32) (m : xM) : Option (Int32 × xM) := (fO_endOfRun t1 m v2 (97 : Int32) (122 : Int32)).bind fun r6 => (if r6 ≤ v2 then (fO_endOfRun t1 m v2 (48 : Int32) (57 : Int32)).bind fun r37 => (if r37 ≤ v2 then (fT_get t1 m v2 (0 : Int32)).bind fun r82 => (if r82 = (59 : Int32) then (fO_add (2 : Int32) v2 (-1 : Int32) m).bind fun r97 => some ((v2 + (1 : Int32)), r97) else (fO_add (4 : Int32) v2 (-1 : Int32) m).bind fun r97 => some ((v2 + (1 : Int32)), r97)) else (if (r37 - v2) ≤ (2 : Int32) then fO_splitOne_b62 t1 v2 r37 (1 : Int32) m else fO_splitOne_b62 t1 v2 r37 (4 : Int32) m)) else (fO_wordNumber t1 m v2 (r6 - v2)).bind fun r23 => (fO_add (0 : Int32) v2 r23 m).bind fun r26 => some (r6, r26))
set_option maxRecDepth 100000 in
set_option maxHeartbeats 4000000 in
theorem kO_splitOne_b62 (G : xG) (t1 : Nat) (ht1 : t1 < 36) (z : xM)    (v2 : Int32) (v4 : Int32) (s0 : Int32) (m : xM) : xR G yyO_splitOne (emic z) 62 [(1, .ref (xa G (36 + t1))), (2, .int v2), (4, .int v4)] [.int s0, .ref (xa G 84)] (m, z) (fO_splitOne_b62 t1 v2 v4 s0 m) := by
  unfold fO_splitOne_b62
  refine xR_iln 62 1 dO_splitOne_62 rfl rfl ?_
  refine xR_aln 63 0 dO_splitOne_63 rfl rfl ?_
  refine xR_iln 64 1 dO_splitOne_64 rfl rfl ?_
  refine xR_il 65 2 dO_splitOne_65 rfl ?_
  refine xR_iln 67 1 dO_splitOne_67 rfl rfl ?_
  refine xR_isub 68 dO_splitOne_68 ?_
  refine xR_callSi 69 cs_O_numberAt ml_RX5_47 ⟨Nat.le_of_ble_eq_true rfl, Nat.le_of_ble_eq_true rfl⟩ [.ref (xa G (36 + t1)), .int v2, .int (v4 - v2)] rfl rfl (Nat.le_of_ble_eq_true rfl) dO_splitOne_69 (kO_numberAt G t1 ht1 z m v2 (v4 - v2)) (fun r69 => ?_)
  refine xR_callVvc 72 cv_O_add ml_RX5_39 ⟨Nat.le_of_ble_eq_true rfl, Nat.le_of_ble_eq_true rfl⟩ xcf4 rfl 84 (by decide) rfl [.int s0, .int v2, .int r69] rfl rfl (Nat.le_of_ble_eq_true rfl) dO_splitOne_72 (kO_add G z m s0 v2 r69) (fun r72 => ?_)
  refine xR_il 75 2 dO_splitOne_75 rfl ?_
  exact xR_iret 77 rfl rfl dO_splitOne_77
set_option maxRecDepth 100000 in
set_option maxHeartbeats 4000000 in
theorem kO_splitOne (G : xG) (t1 : Nat) (ht1 : t1 < 36) (z : xM) (m : xM) (v2 : Int32) : ∀ a, fO_splitOne t1 v2 m = some a → xCt G yyO_splitOne [.ref (xa G 84), .ref (xa G (36 + t1)), .int v2] (m, z) (some (.int a.1)) (a.2, z) := by
  refine xR_ct (em := (emic z)) rfl (Nat.le_of_ble_eq_true rfl) ?_
  show xR G yyO_splitOne _ 0 [(0, .ref (xa G 84)), (1, .ref (xa G (36 + t1))), (2, .int v2)] [] _ _
  unfold fO_splitOne
  refine xR_aln 0 1 dO_splitOne_0 rfl rfl ?_
  refine xR_iln 1 2 dO_splitOne_1 rfl rfl ?_
  refine xR_bp 2 (97 : Int32) dO_splitOne_2 (by decide) ?_
  refine xR_bp 4 (122 : Int32) dO_splitOne_4 (by decide) ?_
  refine xR_callSi 6 cs_O_endOfRun ml_RX5_31 ⟨Nat.le_of_ble_eq_true rfl, Nat.le_of_ble_eq_true rfl⟩ [.ref (xa G (36 + t1)), .int v2, .int (97 : Int32), .int (122 : Int32)] rfl rfl (Nat.le_of_ble_eq_true rfl) dO_splitOne_6 (kO_endOfRun G t1 ht1 z m v2 (97 : Int32) (122 : Int32)) (fun r6 => ?_)
  refine xR_isn 9 ([(3, .int r6), (0, .ref (xa G 84)), (1, .ref (xa G (36 + t1))), (2, .int v2)]) dO_splitOne_9 rfl (by decide) rfl ?_
  refine xR_iln 10 0 dO_splitOne_10 rfl rfl ?_
  refine xR_iln 11 3 dO_splitOne_11 rfl rfl ?_
  refine xR_icle 12 31 dO_splitOne_12 (by decide) ?_ ?_
  · refine xR_aln 31 2 dO_splitOne_31 rfl rfl ?_
    refine xR_iln 32 3 dO_splitOne_32 rfl rfl ?_
    refine xR_bp 33 (48 : Int32) dO_splitOne_33 (by decide) ?_
    refine xR_bp 35 (57 : Int32) dO_splitOne_35 (by decide) ?_
    refine xR_callSi 37 cs_O_endOfRun ml_RX5_31 ⟨Nat.le_of_ble_eq_true rfl, Nat.le_of_ble_eq_true rfl⟩ [.ref (xa G (36 + t1)), .int v2, .int (48 : Int32), .int (57 : Int32)] rfl rfl (Nat.le_of_ble_eq_true rfl) dO_splitOne_37 (kO_endOfRun G t1 ht1 z m v2 (48 : Int32) (57 : Int32)) (fun r37 => ?_)
    refine xR_is 40 ([(4, .int r37), (3, .int r6), (0, .ref (xa G 84)), (1, .ref (xa G (36 + t1))), (2, .int v2)]) dO_splitOne_40 (by decide) rfl ?_
    refine xR_il 42 0 dO_splitOne_42 rfl ?_
    refine xR_iln 44 4 dO_splitOne_44 rfl rfl ?_
    refine xR_icle 45 78 dO_splitOne_45 (by decide) ?_ ?_
    · refine xR_aln 78 2 dO_splitOne_78 rfl rfl ?_
      refine xR_aln 79 3 dO_splitOne_79 rfl rfl ?_
      refine xR_iln 80 4 dO_splitOne_80 rfl rfl ?_
      refine xR_ic 81 (0 : Int32) dO_splitOne_81 (by decide) ?_
      refine xR_callVi 82 cv_T_get ml_RX5_50 ⟨Nat.le_of_ble_eq_true rfl, Nat.le_of_ble_eq_true rfl⟩ xcf3 rfl (36 + t1) (xk_T ht1) (xC_tab ht1) [.int v2, .int (0 : Int32)] rfl rfl (Nat.le_of_ble_eq_true rfl) dO_splitOne_82 (kT_get G t1 ht1 z m v2 (0 : Int32)) (fun r82 => ?_)
      refine xR_bp 85 (59 : Int32) dO_splitOne_85 (by decide) ?_
      refine xR_icne 87 94 dO_splitOne_87 (by decide) ?_ ?_
      · refine xR_ic 94 (4 : Int32) dO_splitOne_94 (by decide) ?_
        refine xR_iln 95 4 dO_splitOne_95 rfl rfl ?_
        refine xR_ic 96 (-1 : Int32) dO_splitOne_96 (by decide) ?_
        refine xR_callVvc 97 cv_O_add ml_RX5_39 ⟨Nat.le_of_ble_eq_true rfl, Nat.le_of_ble_eq_true rfl⟩ xcf4 rfl 84 (by decide) rfl [.int (4 : Int32), .int v2, .int (-1 : Int32)] rfl rfl (Nat.le_of_ble_eq_true rfl) dO_splitOne_97 (kO_add G z m (4 : Int32) v2 (-1 : Int32)) (fun r97 => ?_)
        refine xR_iln 100 4 dO_splitOne_100 rfl rfl ?_
        refine xR_ic 101 (1 : Int32) dO_splitOne_101 (by decide) ?_
        refine xR_iadd 102 dO_splitOne_102 ?_
        exact xR_iret 103 rfl rfl dO_splitOne_103
      · refine xR_ic 90 (2 : Int32) dO_splitOne_90 (by decide) ?_
        refine xR_goto 91 95 dO_splitOne_91 (by decide) ?_
        refine xR_iln 95 4 dO_splitOne_95 rfl rfl ?_
        refine xR_ic 96 (-1 : Int32) dO_splitOne_96 (by decide) ?_
        refine xR_callVvc 97 cv_O_add ml_RX5_39 ⟨Nat.le_of_ble_eq_true rfl, Nat.le_of_ble_eq_true rfl⟩ xcf4 rfl 84 (by decide) rfl [.int (2 : Int32), .int v2, .int (-1 : Int32)] rfl rfl (Nat.le_of_ble_eq_true rfl) dO_splitOne_97 (kO_add G z m (2 : Int32) v2 (-1 : Int32)) (fun r97 => ?_)
        refine xR_iln 100 4 dO_splitOne_100 rfl rfl ?_
        refine xR_ic 101 (1 : Int32) dO_splitOne_101 (by decide) ?_
        refine xR_iadd 102 dO_splitOne_102 ?_
        exact xR_iret 103 rfl rfl dO_splitOne_103
    · refine xR_aln 48 2 dO_splitOne_48 rfl rfl ?_
      refine xR_il 49 0 dO_splitOne_49 rfl ?_
      refine xR_iln 51 4 dO_splitOne_51 rfl rfl ?_
      refine xR_isub 52 dO_splitOne_52 ?_
      refine xR_ic 53 (2 : Int32) dO_splitOne_53 (by decide) ?_
      refine xR_icle 54 61 dO_splitOne_54 (by decide) ?_ ?_
      · refine xR_ic 61 (1 : Int32) dO_splitOne_61 (by decide) ?_
        exact xR_sub [3, 4, 0] rfl (kO_splitOne_b62 G t1 ht1 z v2 r37 (1 : Int32) m)
      · refine xR_ic 57 (4 : Int32) dO_splitOne_57 (by decide) ?_
        refine xR_goto 58 62 dO_splitOne_58 (by decide) ?_
        exact xR_sub [3, 4, 0] rfl (kO_splitOne_b62 G t1 ht1 z v2 r37 (4 : Int32) m)
  · refine xR_aln 15 1 dO_splitOne_15 rfl rfl ?_
    refine xR_ic 16 (0 : Int32) dO_splitOne_16 (by decide) ?_
    refine xR_iln 17 3 dO_splitOne_17 rfl rfl ?_
    refine xR_aln 18 2 dO_splitOne_18 rfl rfl ?_
    refine xR_iln 19 3 dO_splitOne_19 rfl rfl ?_
    refine xR_iln 20 0 dO_splitOne_20 rfl rfl ?_
    refine xR_iln 21 3 dO_splitOne_21 rfl rfl ?_
    refine xR_isub 22 dO_splitOne_22 ?_
    refine xR_callSi 23 cs_O_wordNumber ml_RX5_43 ⟨Nat.le_of_ble_eq_true rfl, Nat.le_of_ble_eq_true rfl⟩ [.ref (xa G (36 + t1)), .int v2, .int (r6 - v2)] rfl rfl (Nat.le_of_ble_eq_true rfl) dO_splitOne_23 (kO_wordNumber G t1 ht1 z m v2 (r6 - v2)) (fun r23 => ?_)
    refine xR_callVvc 26 cv_O_add ml_RX5_39 ⟨Nat.le_of_ble_eq_true rfl, Nat.le_of_ble_eq_true rfl⟩ xcf4 rfl 84 (by decide) rfl [.int (0 : Int32), .int v2, .int r23] rfl rfl (Nat.le_of_ble_eq_true rfl) dO_splitOne_26 (kO_add G z m (0 : Int32) v2 r23) (fun r26 => ?_)
    refine xR_iln 29 0 dO_splitOne_29 rfl rfl ?_
    exact xR_iret 30 rfl rfl dO_splitOne_30
theorem dO_split_0 : decode (xb yyO_split) 0 = .ok (.aload_n 0, 1) := by decide +kernel
theorem dO_split_1 : decode (xb yyO_split) 1 = .ok (.getfield 14, 3) := by decide +kernel
theorem dO_split_4 : decode (xb yyO_split) 4 = .ok (.invokevirtual 28, 3) := by decide +kernel
theorem dO_split_7 : decode (xb yyO_split) 7 = .ok (.aload_n 0, 1) := by decide +kernel
theorem dO_split_8 : decode (xb yyO_split) 8 = .ok (.iconst 0, 1) := by decide +kernel
theorem dO_split_9 : decode (xb yyO_split) 9 = .ok (.putfield 20, 3) := by decide +kernel
theorem dO_split_12 : decode (xb yyO_split) 12 = .ok (.aload_n 1, 1) := by decide +kernel
theorem dO_split_13 : decode (xb yyO_split) 13 = .ok (.iconst 0, 1) := by decide +kernel
theorem dO_split_14 : decode (xb yyO_split) 14 = .ok (.bipush 32, 2) := by decide +kernel
theorem dO_split_16 : decode (xb yyO_split) 16 = .ok (.bipush 32, 2) := by decide +kernel
theorem dO_split_18 : decode (xb yyO_split) 18 = .ok (.invokestatic 31, 3) := by decide +kernel
theorem dO_split_21 : decode (xb yyO_split) 21 = .ok (.istore_n 2, 1) := by decide +kernel
theorem dO_split_22 : decode (xb yyO_split) 22 = .ok (.iconst 0, 1) := by decide +kernel
theorem dO_split_23 : decode (xb yyO_split) 23 = .ok (.istore_n 3, 1) := by decide +kernel
theorem dO_split_24 : decode (xb yyO_split) 24 = .ok (.iload_n 3, 1) := by decide +kernel
theorem dO_split_25 : decode (xb yyO_split) 25 = .ok (.sipush 150, 3) := by decide +kernel
theorem dO_split_28 : decode (xb yyO_split) 28 = .ok (.if_icmp .ge 32, 3) := by decide +kernel
theorem dO_split_31 : decode (xb yyO_split) 31 = .ok (.iload_n 2, 1) := by decide +kernel
theorem dO_split_32 : decode (xb yyO_split) 32 = .ok (.aload_n 1, 1) := by decide +kernel
theorem dO_split_33 : decode (xb yyO_split) 33 = .ok (.invokevirtual 24, 3) := by decide +kernel
theorem dO_split_36 : decode (xb yyO_split) 36 = .ok (.if_icmp .ge 24, 3) := by decide +kernel
theorem dO_split_39 : decode (xb yyO_split) 39 = .ok (.aload_n 1, 1) := by decide +kernel
theorem dO_split_40 : decode (xb yyO_split) 40 = .ok (.aload_n 0, 1) := by decide +kernel
theorem dO_split_41 : decode (xb yyO_split) 41 = .ok (.aload_n 1, 1) := by decide +kernel
theorem dO_split_42 : decode (xb yyO_split) 42 = .ok (.iload_n 2, 1) := by decide +kernel
theorem dO_split_43 : decode (xb yyO_split) 43 = .ok (.invokevirtual 35, 3) := by decide +kernel
theorem dO_split_46 : decode (xb yyO_split) 46 = .ok (.bipush 32, 2) := by decide +kernel
theorem dO_split_48 : decode (xb yyO_split) 48 = .ok (.bipush 32, 2) := by decide +kernel
theorem dO_split_50 : decode (xb yyO_split) 50 = .ok (.invokestatic 31, 3) := by decide +kernel
theorem dO_split_53 : decode (xb yyO_split) 53 = .ok (.istore_n 2, 1) := by decide +kernel
theorem dO_split_54 : decode (xb yyO_split) 54 = .ok (.iinc 3 1, 3) := by decide +kernel
theorem dO_split_57 : decode (xb yyO_split) 57 = .ok (.goto (-33), 3) := by decide +kernel
theorem dO_split_60 : decode (xb yyO_split) 60 = .ok (.aload_n 0, 1) := by decide +kernel
theorem dO_split_61 : decode (xb yyO_split) 61 = .ok (.iconst 3, 1) := by decide +kernel
theorem dO_split_62 : decode (xb yyO_split) 62 = .ok (.aload_n 1, 1) := by decide +kernel
theorem dO_split_63 : decode (xb yyO_split) 63 = .ok (.invokevirtual 24, 3) := by decide +kernel
theorem dO_split_66 : decode (xb yyO_split) 66 = .ok (.iconst (-1), 1) := by decide +kernel
theorem dO_split_67 : decode (xb yyO_split) 67 = .ok (.invokevirtual 39, 3) := by decide +kernel
theorem dO_split_70 : decode (xb yyO_split) 70 = .ok (.return_, 1) := by decide +kernel
def fO_split_l24 (t1 : Nat) : Nat → Int32 → Int32 → xM → Option (xM)
  | 0, _, _, _ => none
  | n + 1, v2, v3, m => (if (150 : Int32) ≤ v3 then (fT_many t1 m).bind fun r63 => (fO_add (3 : Int32) r63 (-1 : Int32) m).bind fun r67 => some r67 else (fT_many t1 m).bind fun r33 => (if r33 ≤ v2 then (fT_many t1 m).bind fun r63 => (fO_add (3 : Int32) r63 (-1 : Int32) m).bind fun r67 => some r67 else (fO_splitOne t1 v2 m).bind fun r43 => (fO_endOfRun t1 r43.2 r43.1 (32 : Int32) (32 : Int32)).bind fun r50 => fO_split_l24 t1 n r50 (v3 + 1) r43.2))
def fO_split (t1 : Nat) (m : xM) : Option (xM) := (fT_empty 30 m).bind fun r4 => (fO_endOfRun t1 (xset r4 41 0 (0 : Int32)) (0 : Int32) (32 : Int32) (32 : Int32)).bind fun r18 => fO_split_l24 t1 xfu r18 (0 : Int32) (xset r4 41 0 (0 : Int32))
set_option maxRecDepth 100000 in
set_option maxHeartbeats 4000000 in
theorem kO_split_l24 (G : xG) (t1 : Nat) (ht1 : t1 < 36) (z : xM)    : ∀ (n : Nat) (v2 : Int32) (v3 : Int32) (m : xM), xR G yyO_split (emvc z) 24 [(0, .ref (xa G 84)), (1, .ref (xa G (36 + t1))), (2, .int v2), (3, .int v3)] [] (m, z) (fO_split_l24 t1 n v2 v3 m) := by
  intro n
  induction n with
  | zero =>
    intro v2 v3 m
    rw [fO_split_l24]
    exact xR_none
  | succ n ih =>
    intro v2 v3 m
    rw [fO_split_l24]
    refine xR_iln 24 3 dO_split_24 rfl rfl ?_
    refine xR_sp 25 (150 : Int32) dO_split_25 (by decide) ?_
    refine xR_icge 28 60 dO_split_28 (by decide) ?_ ?_
    · refine xR_aln 60 0 dO_split_60 rfl rfl ?_
      refine xR_ic 61 (3 : Int32) dO_split_61 (by decide) ?_
      refine xR_aln 62 1 dO_split_62 rfl rfl ?_
      refine xR_callVi 63 cv_T_many ml_RX5_24 ⟨Nat.le_of_ble_eq_true rfl, Nat.le_of_ble_eq_true rfl⟩ xcf3 rfl (36 + t1) (xk_T ht1) (xC_tab ht1) [] rfl rfl (Nat.le_of_ble_eq_true rfl) dO_split_63 (kT_many G t1 ht1 z m) (fun r63 => ?_)
      refine xR_ic 66 (-1 : Int32) dO_split_66 (by decide) ?_
      refine xR_callVvc 67 cv_O_add ml_RX5_39 ⟨Nat.le_of_ble_eq_true rfl, Nat.le_of_ble_eq_true rfl⟩ xcf4 rfl 84 (by decide) rfl [.int (3 : Int32), .int r63, .int (-1 : Int32)] rfl rfl (Nat.le_of_ble_eq_true rfl) dO_split_67 (kO_add G z m (3 : Int32) r63 (-1 : Int32)) (fun r67 => ?_)
      exact xR_vret 70 rfl rfl dO_split_70
    · refine xR_iln 31 2 dO_split_31 rfl rfl ?_
      refine xR_aln 32 1 dO_split_32 rfl rfl ?_
      refine xR_callVi 33 cv_T_many ml_RX5_24 ⟨Nat.le_of_ble_eq_true rfl, Nat.le_of_ble_eq_true rfl⟩ xcf3 rfl (36 + t1) (xk_T ht1) (xC_tab ht1) [] rfl rfl (Nat.le_of_ble_eq_true rfl) dO_split_33 (kT_many G t1 ht1 z m) (fun r33 => ?_)
      refine xR_icge 36 60 dO_split_36 (by decide) ?_ ?_
      · refine xR_aln 60 0 dO_split_60 rfl rfl ?_
        refine xR_ic 61 (3 : Int32) dO_split_61 (by decide) ?_
        refine xR_aln 62 1 dO_split_62 rfl rfl ?_
        refine xR_callVi 63 cv_T_many ml_RX5_24 ⟨Nat.le_of_ble_eq_true rfl, Nat.le_of_ble_eq_true rfl⟩ xcf3 rfl (36 + t1) (xk_T ht1) (xC_tab ht1) [] rfl rfl (Nat.le_of_ble_eq_true rfl) dO_split_63 (kT_many G t1 ht1 z m) (fun r63 => ?_)
        refine xR_ic 66 (-1 : Int32) dO_split_66 (by decide) ?_
        refine xR_callVvc 67 cv_O_add ml_RX5_39 ⟨Nat.le_of_ble_eq_true rfl, Nat.le_of_ble_eq_true rfl⟩ xcf4 rfl 84 (by decide) rfl [.int (3 : Int32), .int r63, .int (-1 : Int32)] rfl rfl (Nat.le_of_ble_eq_true rfl) dO_split_67 (kO_add G z m (3 : Int32) r63 (-1 : Int32)) (fun r67 => ?_)
        exact xR_vret 70 rfl rfl dO_split_70
      · refine xR_aln 39 1 dO_split_39 rfl rfl ?_
        refine xR_aln 40 0 dO_split_40 rfl rfl ?_
        refine xR_aln 41 1 dO_split_41 rfl rfl ?_
        refine xR_iln 42 2 dO_split_42 rfl rfl ?_
        refine xR_callVic 43 cv_O_splitOne ml_RX5_35 ⟨Nat.le_of_ble_eq_true rfl, Nat.le_of_ble_eq_true rfl⟩ xcf4 rfl 84 (by decide) rfl [.ref (xa G (36 + t1)), .int v2] rfl rfl (Nat.le_of_ble_eq_true rfl) dO_split_43 (kO_splitOne G t1 ht1 z m v2) (fun r43 => ?_)
        refine xR_bp 46 (32 : Int32) dO_split_46 (by decide) ?_
        refine xR_bp 48 (32 : Int32) dO_split_48 (by decide) ?_
        refine xR_callSi 50 cs_O_endOfRun ml_RX5_31 ⟨Nat.le_of_ble_eq_true rfl, Nat.le_of_ble_eq_true rfl⟩ [.ref (xa G (36 + t1)), .int r43.1, .int (32 : Int32), .int (32 : Int32)] rfl rfl (Nat.le_of_ble_eq_true rfl) dO_split_50 (kO_endOfRun G t1 ht1 z r43.2 r43.1 (32 : Int32) (32 : Int32)) (fun r50 => ?_)
        refine xR_isn 53 ([(2, .int r50), (0, .ref (xa G 84)), (1, .ref (xa G (36 + t1))), (3, .int v3)]) dO_split_53 rfl (by decide) rfl ?_
        refine xR_iinc 54 3 (v3 + 1) ([(3, .int (v3 + 1)), (2, .int r50), (0, .ref (xa G 84)), (1, .ref (xa G (36 + t1)))]) dO_split_54 rfl rfl (by decide) rfl ?_
        refine xR_goto 57 24 dO_split_57 (by decide) ?_
        exact xR_sub [2, 3, 1, 0] rfl (ih r50 (v3 + 1) r43.2)
set_option maxRecDepth 100000 in
set_option maxHeartbeats 4000000 in
theorem kO_split (G : xG) (t1 : Nat) (ht1 : t1 < 36) (z : xM) (m : xM) : ∀ a, fO_split t1 m = some a → xCt G yyO_split [.ref (xa G 84), .ref (xa G (36 + t1))] (m, z) (none) (a, z) := by
  refine xR_ct (em := (emvc z)) rfl (Nat.le_of_ble_eq_true rfl) ?_
  show xR G yyO_split _ 0 [(0, .ref (xa G 84)), (1, .ref (xa G (36 + t1)))] [] _ _
  unfold fO_split
  refine xR_aln 0 0 dO_split_0 rfl rfl ?_
  refine xR_getf 1 xcf4 0 84 (by decide) (by decide) rfl (v := .ref (xa G 66)) rfl fl_RX5_14 dO_split_1 ?_
  refine xR_callVvc 4 cv_T_empty ml_RX5_28 ⟨Nat.le_of_ble_eq_true rfl, Nat.le_of_ble_eq_true rfl⟩ xcf3 rfl 66 (by decide) (xC_tab (t := 30) (by decide)) [] rfl rfl (Nat.le_of_ble_eq_true rfl) dO_split_4 (kT_empty G 30 (by decide) z m) (fun r4 => ?_)
  refine xR_aln 7 0 dO_split_7 rfl rfl ?_
  refine xR_ic 8 (0 : Int32) dO_split_8 (by decide) ?_
  refine xR_putf 9 xcf4 1 84 (by decide) (by decide) rfl rfl rfl rfl (Nat.le_of_ble_eq_true rfl) ((xset r4 41 0 (0 : Int32)), z) (xW_blk (a := 41) (i := 0) (by decide) (by decide) rfl) fl_RX5_20 dO_split_9 ?_
  refine xR_aln 12 1 dO_split_12 rfl rfl ?_
  refine xR_ic 13 (0 : Int32) dO_split_13 (by decide) ?_
  refine xR_bp 14 (32 : Int32) dO_split_14 (by decide) ?_
  refine xR_bp 16 (32 : Int32) dO_split_16 (by decide) ?_
  refine xR_callSi 18 cs_O_endOfRun ml_RX5_31 ⟨Nat.le_of_ble_eq_true rfl, Nat.le_of_ble_eq_true rfl⟩ [.ref (xa G (36 + t1)), .int (0 : Int32), .int (32 : Int32), .int (32 : Int32)] rfl rfl (Nat.le_of_ble_eq_true rfl) dO_split_18 (kO_endOfRun G t1 ht1 z (xset r4 41 0 (0 : Int32)) (0 : Int32) (32 : Int32) (32 : Int32)) (fun r18 => ?_)
  refine xR_isn 21 ([(2, .int r18), (0, .ref (xa G 84)), (1, .ref (xa G (36 + t1)))]) dO_split_21 rfl (by decide) rfl ?_
  refine xR_ic 22 (0 : Int32) dO_split_22 (by decide) ?_
  refine xR_isn 23 ([(3, .int (0 : Int32)), (2, .int r18), (0, .ref (xa G 84)), (1, .ref (xa G (36 + t1)))]) dO_split_23 rfl (by decide) rfl ?_
  exact xR_sub [2, 3, 1, 0] rfl (kO_split_l24 G t1 ht1 z xfu r18 (0 : Int32) (xset r4 41 0 (0 : Int32)))
theorem dO_next_0 : decode (xb yyO_next) 0 = .ok (.aload_n 0, 1) := by decide +kernel
theorem dO_next_1 : decode (xb yyO_next) 1 = .ok (.getfield 20, 3) := by decide +kernel
theorem dO_next_4 : decode (xb yyO_next) 4 = .ok (.istore_n 1, 1) := by decide +kernel
theorem dO_next_5 : decode (xb yyO_next) 5 = .ok (.aload_n 0, 1) := by decide +kernel
theorem dO_next_6 : decode (xb yyO_next) 6 = .ok (.getfield 20, 3) := by decide +kernel
theorem dO_next_9 : decode (xb yyO_next) 9 = .ok (.iconst 1, 1) := by decide +kernel
theorem dO_next_10 : decode (xb yyO_next) 10 = .ok (.iadd, 1) := by decide +kernel
theorem dO_next_11 : decode (xb yyO_next) 11 = .ok (.aload_n 0, 1) := by decide +kernel
theorem dO_next_12 : decode (xb yyO_next) 12 = .ok (.getfield 14, 3) := by decide +kernel
theorem dO_next_15 : decode (xb yyO_next) 15 = .ok (.invokevirtual 24, 3) := by decide +kernel
theorem dO_next_18 : decode (xb yyO_next) 18 = .ok (.if_icmp .ge 13, 3) := by decide +kernel
theorem dO_next_21 : decode (xb yyO_next) 21 = .ok (.aload_n 0, 1) := by decide +kernel
theorem dO_next_22 : decode (xb yyO_next) 22 = .ok (.dup, 1) := by decide +kernel
theorem dO_next_23 : decode (xb yyO_next) 23 = .ok (.getfield 20, 3) := by decide +kernel
theorem dO_next_26 : decode (xb yyO_next) 26 = .ok (.iconst 1, 1) := by decide +kernel
theorem dO_next_27 : decode (xb yyO_next) 27 = .ok (.iadd, 1) := by decide +kernel
theorem dO_next_28 : decode (xb yyO_next) 28 = .ok (.putfield 20, 3) := by decide +kernel
theorem dO_next_31 : decode (xb yyO_next) 31 = .ok (.iload_n 1, 1) := by decide +kernel
theorem dO_next_32 : decode (xb yyO_next) 32 = .ok (.ireturn, 1) := by decide +kernel
def fO_next  (m : xM) : Option (Int32 × xM) := (fT_many 30 m).bind fun r15 => (if r15 ≤ ((m.1 41 0) + (1 : Int32)) then some ((m.1 41 0), m) else some ((m.1 41 0), (xset m 41 0 ((m.1 41 0) + (1 : Int32)))))
set_option maxRecDepth 100000 in
set_option maxHeartbeats 4000000 in
theorem kO_next (G : xG)   (z : xM) (m : xM) : ∀ a, fO_next  m = some a → xCt G yyO_next [.ref (xa G 84)] (m, z) (some (.int a.1)) (a.2, z) := by
  refine xR_ct (em := (emic z)) rfl (Nat.le_of_ble_eq_true rfl) ?_
  show xR G yyO_next _ 0 [(0, .ref (xa G 84))] [] _ _
  unfold fO_next
  refine xR_aln 0 0 dO_next_0 rfl rfl ?_
  refine xR_getf 1 xcf4 1 84 (by decide) (by decide) rfl (v := .int (m.1 41 0)) rfl fl_RX5_20 dO_next_1 ?_
  refine xR_isn 4 ([(1, .int (m.1 41 0)), (0, .ref (xa G 84))]) dO_next_4 rfl (by decide) rfl ?_
  refine xR_aln 5 1 dO_next_5 rfl rfl ?_
  refine xR_getf 6 xcf4 1 84 (by decide) (by decide) rfl (v := .int (m.1 41 0)) rfl fl_RX5_20 dO_next_6 ?_
  refine xR_ic 9 (1 : Int32) dO_next_9 (by decide) ?_
  refine xR_iadd 10 dO_next_10 ?_
  refine xR_aln 11 1 dO_next_11 rfl rfl ?_
  refine xR_getf 12 xcf4 0 84 (by decide) (by decide) rfl (v := .ref (xa G 66)) rfl fl_RX5_14 dO_next_12 ?_
  refine xR_callVi 15 cv_T_many ml_RX5_24 ⟨Nat.le_of_ble_eq_true rfl, Nat.le_of_ble_eq_true rfl⟩ xcf3 rfl 66 (by decide) (xC_tab (t := 30) (by decide)) [] rfl rfl (Nat.le_of_ble_eq_true rfl) dO_next_15 (kT_many G 30 (by decide) z m) (fun r15 => ?_)
  refine xR_icge 18 31 dO_next_18 (by decide) ?_ ?_
  · refine xR_iln 31 0 dO_next_31 rfl rfl ?_
    exact xR_iret 32 rfl rfl dO_next_32
  · refine xR_aln 21 1 dO_next_21 rfl rfl ?_
    refine xR_dup 22 dO_next_22 rfl ?_
    refine xR_getf 23 xcf4 1 84 (by decide) (by decide) rfl (v := .int (m.1 41 0)) rfl fl_RX5_20 dO_next_23 ?_
    refine xR_ic 26 (1 : Int32) dO_next_26 (by decide) ?_
    refine xR_iadd 27 dO_next_27 ?_
    refine xR_putf 28 xcf4 1 84 (by decide) (by decide) rfl rfl rfl rfl (Nat.le_of_ble_eq_true rfl) ((xset m 41 0 ((m.1 41 0) + (1 : Int32))), z) (xW_blk (a := 41) (i := 0) (by decide) (by decide) rfl) fl_RX5_20 dO_next_28 ?_
    refine xR_iln 31 0 dO_next_31 rfl rfl ?_
    exact xR_iret 32 rfl rfl dO_next_32
