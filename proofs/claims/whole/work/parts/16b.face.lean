theorem dH_note_0 : decode (xb yyH_note) 0 = .ok (.aload_n 0, 1) := by decide +kernel
theorem dH_note_1 : decode (xb yyH_note) 1 = .ok (.getfield 10, 3) := by decide +kernel
theorem dH_note_4 : decode (xb yyH_note) 4 = .ok (.getfield 68, 3) := by decide +kernel
theorem dH_note_7 : decode (xb yyH_note) 7 = .ok (.iload_n 1, 1) := by decide +kernel
theorem dH_note_8 : decode (xb yyH_note) 8 = .ok (.invokevirtual 118, 3) := by decide +kernel
theorem dH_note_11 : decode (xb yyH_note) 11 = .ok (.ifCond .eq 42, 3) := by decide +kernel
theorem dH_note_14 : decode (xb yyH_note) 14 = .ok (.iload_n 2, 1) := by decide +kernel
theorem dH_note_15 : decode (xb yyH_note) 15 = .ok (.iconst 0, 1) := by decide +kernel
theorem dH_note_16 : decode (xb yyH_note) 16 = .ok (.bipush 99, 2) := by decide +kernel
theorem dH_note_18 : decode (xb yyH_note) 18 = .ok (.invokestatic 78, 3) := by decide +kernel
theorem dH_note_21 : decode (xb yyH_note) 21 = .ok (.ifCond .eq 32, 3) := by decide +kernel
theorem dH_note_24 : decode (xb yyH_note) 24 = .ok (.iload_n 3, 1) := by decide +kernel
theorem dH_note_25 : decode (xb yyH_note) 25 = .ok (.iconst 0, 1) := by decide +kernel
theorem dH_note_26 : decode (xb yyH_note) 26 = .ok (.bipush 9, 2) := by decide +kernel
theorem dH_note_28 : decode (xb yyH_note) 28 = .ok (.invokestatic 78, 3) := by decide +kernel
theorem dH_note_31 : decode (xb yyH_note) 31 = .ok (.ifCond .eq 22, 3) := by decide +kernel
theorem dH_note_34 : decode (xb yyH_note) 34 = .ok (.iload 4, 2) := by decide +kernel
theorem dH_note_36 : decode (xb yyH_note) 36 = .ok (.invokestatic 176, 3) := by decide +kernel
theorem dH_note_39 : decode (xb yyH_note) 39 = .ok (.ifCond .eq 14, 3) := by decide +kernel
theorem dH_note_42 : decode (xb yyH_note) 42 = .ok (.iload 5, 2) := by decide +kernel
theorem dH_note_44 : decode (xb yyH_note) 44 = .ok (.iconst 0, 1) := by decide +kernel
theorem dH_note_45 : decode (xb yyH_note) 45 = .ok (.bipush 60, 2) := by decide +kernel
theorem dH_note_47 : decode (xb yyH_note) 47 = .ok (.invokestatic 78, 3) := by decide +kernel
theorem dH_note_50 : decode (xb yyH_note) 50 = .ok (.ifCond .ne 8, 3) := by decide +kernel
theorem dH_note_53 : decode (xb yyH_note) 53 = .ok (.aload_n 0, 1) := by decide +kernel
theorem dH_note_54 : decode (xb yyH_note) 54 = .ok (.invokevirtual 82, 3) := by decide +kernel
theorem dH_note_57 : decode (xb yyH_note) 57 = .ok (.ireturn, 1) := by decide +kernel
theorem dH_note_58 : decode (xb yyH_note) 58 = .ok (.aload_n 0, 1) := by decide +kernel
theorem dH_note_59 : decode (xb yyH_note) 59 = .ok (.getfield 10, 3) := by decide +kernel
theorem dH_note_62 : decode (xb yyH_note) 62 = .ok (.getfield 243, 3) := by decide +kernel
theorem dH_note_65 : decode (xb yyH_note) 65 = .ok (.invokevirtual 127, 3) := by decide +kernel
theorem dH_note_68 : decode (xb yyH_note) 68 = .ok (.istore 6, 2) := by decide +kernel
theorem dH_note_70 : decode (xb yyH_note) 70 = .ok (.iload 6, 2) := by decide +kernel
theorem dH_note_72 : decode (xb yyH_note) 72 = .ok (.iconst (-1), 1) := by decide +kernel
theorem dH_note_73 : decode (xb yyH_note) 73 = .ok (.if_icmp .ne 8, 3) := by decide +kernel
theorem dH_note_76 : decode (xb yyH_note) 76 = .ok (.aload_n 0, 1) := by decide +kernel
theorem dH_note_77 : decode (xb yyH_note) 77 = .ok (.invokevirtual 103, 3) := by decide +kernel
theorem dH_note_80 : decode (xb yyH_note) 80 = .ok (.ireturn, 1) := by decide +kernel
theorem dH_note_81 : decode (xb yyH_note) 81 = .ok (.aload_n 0, 1) := by decide +kernel
theorem dH_note_82 : decode (xb yyH_note) 82 = .ok (.getfield 10, 3) := by decide +kernel
theorem dH_note_85 : decode (xb yyH_note) 85 = .ok (.getfield 243, 3) := by decide +kernel
theorem dH_note_88 : decode (xb yyH_note) 88 = .ok (.iload 6, 2) := by decide +kernel
theorem dH_note_90 : decode (xb yyH_note) 90 = .ok (.iconst 0, 1) := by decide +kernel
theorem dH_note_91 : decode (xb yyH_note) 91 = .ok (.iload_n 1, 1) := by decide +kernel
theorem dH_note_92 : decode (xb yyH_note) 92 = .ok (.invokevirtual 91, 3) := by decide +kernel
theorem dH_note_95 : decode (xb yyH_note) 95 = .ok (.aload_n 0, 1) := by decide +kernel
theorem dH_note_96 : decode (xb yyH_note) 96 = .ok (.getfield 10, 3) := by decide +kernel
theorem dH_note_99 : decode (xb yyH_note) 99 = .ok (.getfield 243, 3) := by decide +kernel
theorem dH_note_102 : decode (xb yyH_note) 102 = .ok (.iload 6, 2) := by decide +kernel
theorem dH_note_104 : decode (xb yyH_note) 104 = .ok (.iconst 1, 1) := by decide +kernel
theorem dH_note_105 : decode (xb yyH_note) 105 = .ok (.iload_n 2, 1) := by decide +kernel
theorem dH_note_106 : decode (xb yyH_note) 106 = .ok (.invokevirtual 91, 3) := by decide +kernel
theorem dH_note_109 : decode (xb yyH_note) 109 = .ok (.aload_n 0, 1) := by decide +kernel
theorem dH_note_110 : decode (xb yyH_note) 110 = .ok (.getfield 10, 3) := by decide +kernel
theorem dH_note_113 : decode (xb yyH_note) 113 = .ok (.getfield 243, 3) := by decide +kernel
theorem dH_note_116 : decode (xb yyH_note) 116 = .ok (.iload 6, 2) := by decide +kernel
theorem dH_note_118 : decode (xb yyH_note) 118 = .ok (.iconst 2, 1) := by decide +kernel
theorem dH_note_119 : decode (xb yyH_note) 119 = .ok (.iload_n 3, 1) := by decide +kernel
theorem dH_note_120 : decode (xb yyH_note) 120 = .ok (.invokevirtual 91, 3) := by decide +kernel
theorem dH_note_123 : decode (xb yyH_note) 123 = .ok (.aload_n 0, 1) := by decide +kernel
theorem dH_note_124 : decode (xb yyH_note) 124 = .ok (.getfield 10, 3) := by decide +kernel
theorem dH_note_127 : decode (xb yyH_note) 127 = .ok (.getfield 243, 3) := by decide +kernel
theorem dH_note_130 : decode (xb yyH_note) 130 = .ok (.iload 6, 2) := by decide +kernel
theorem dH_note_132 : decode (xb yyH_note) 132 = .ok (.iconst 3, 1) := by decide +kernel
theorem dH_note_133 : decode (xb yyH_note) 133 = .ok (.iload 4, 2) := by decide +kernel
theorem dH_note_135 : decode (xb yyH_note) 135 = .ok (.invokevirtual 91, 3) := by decide +kernel
theorem dH_note_138 : decode (xb yyH_note) 138 = .ok (.aload_n 0, 1) := by decide +kernel
theorem dH_note_139 : decode (xb yyH_note) 139 = .ok (.getfield 10, 3) := by decide +kernel
theorem dH_note_142 : decode (xb yyH_note) 142 = .ok (.getfield 243, 3) := by decide +kernel
theorem dH_note_145 : decode (xb yyH_note) 145 = .ok (.iload 6, 2) := by decide +kernel
theorem dH_note_147 : decode (xb yyH_note) 147 = .ok (.iconst 4, 1) := by decide +kernel
theorem dH_note_148 : decode (xb yyH_note) 148 = .ok (.iload 5, 2) := by decide +kernel
theorem dH_note_150 : decode (xb yyH_note) 150 = .ok (.invokevirtual 91, 3) := by decide +kernel
theorem dH_note_153 : decode (xb yyH_note) 153 = .ok (.aload_n 0, 1) := by decide +kernel
theorem dH_note_154 : decode (xb yyH_note) 154 = .ok (.getfield 10, 3) := by decide +kernel
theorem dH_note_157 : decode (xb yyH_note) 157 = .ok (.getfield 243, 3) := by decide +kernel
theorem dH_note_160 : decode (xb yyH_note) 160 = .ok (.invokevirtual 113, 3) := by decide +kernel
theorem dH_note_163 : decode (xb yyH_note) 163 = .ok (.ireturn, 1) := by decide +kernel
def fH_note  (v1 : Int32) (v2 : Int32) (v3 : Int32) (v4 : Int32) (v5 : Int32) (m : xM) : Option (Int32 × xM) := (fB_has 0 m v1).bind fun r8 => (if r8 = 0 then (fH_bad m).bind fun r54 => some (r54.1, r54.2) else (fH_within v2 (0 : Int32) (99 : Int32)).bind fun r18 => (if r18 = 0 then (fH_bad m).bind fun r54 => some (r54.1, r54.2) else (fH_within v3 (0 : Int32) (9 : Int32)).bind fun r28 => (if r28 = 0 then (fH_bad m).bind fun r54 => some (r54.1, r54.2) else (fH_isString v4).bind fun r36 => (if r36 = 0 then (fH_bad m).bind fun r54 => some (r54.1, r54.2) else (fH_within v5 (0 : Int32) (60 : Int32)).bind fun r47 => (if r47 = 0 then (fH_bad m).bind fun r54 => some (r54.1, r54.2) else (fT_newRow 5 m).bind fun r65 => (if r65.1 = (-1 : Int32) then (fH_full r65.2).bind fun r77 => some (r77.1, r77.2) else (fT_put 5 r65.1 (0 : Int32) v1 r65.2).bind fun r92 => (fT_put 5 r65.1 (1 : Int32) v2 r92).bind fun r106 => (fT_put 5 r65.1 (2 : Int32) v3 r106).bind fun r120 => (fT_put 5 r65.1 (3 : Int32) v4 r120).bind fun r135 => (fT_put 5 r65.1 (4 : Int32) v5 r135).bind fun r150 => (fT_many 5 r150).bind fun r160 => some (r160, r150)))))))
set_option maxRecDepth 100000 in
set_option maxHeartbeats 4000000 in
theorem kH_note (G : xG)   (z : xM) (m : xM) (v1 : Int32) (v2 : Int32) (v3 : Int32) (v4 : Int32) (v5 : Int32) : ∀ a, fH_note  v1 v2 v3 v4 v5 m = some a → xCt G yyH_note [.ref (xa G 81), .int v1, .int v2, .int v3, .int v4, .int v5] (m, z) (some (.int a.1)) (a.2, z) := by
  refine xR_ct (em := (emic z)) rfl (Nat.le_of_ble_eq_true rfl) ?_
  show xR G yyH_note _ 0 [(0, .ref (xa G 81)), (1, .int v1), (2, .int v2), (3, .int v3), (4, .int v4), (5, .int v5)] [] _ _
  unfold fH_note
  refine xR_aln 0 0 dH_note_0 rfl rfl ?_
  refine xR_getf 1 xcf6 0 81 (by decide) (by decide) rfl (v := .ref (xa G 77)) rfl fl_RX8_10 dH_note_1 ?_
  refine xR_getf 4 xcf5 0 77 (by decide) (by decide) (xC_twn (t := 0) (by decide)) (v := .ref (xa G 72)) rfl fl_RX8_68 dH_note_4 ?_
  refine xR_iln 7 1 dH_note_7 rfl rfl ?_
  refine xR_callVi 8 cv_B_has ml_RX8_118 ⟨Nat.le_of_ble_eq_true rfl, Nat.le_of_ble_eq_true rfl⟩ xcf0 rfl 72 (by decide) (xC_brd (b := 0) (by decide)) [.int v1] rfl rfl (Nat.le_of_ble_eq_true rfl) dH_note_8 (kB_has G 0 (by decide) z m v1) (fun r8 => ?_)
  refine xR_ifeq 11 53 dH_note_11 (by decide) ?_ ?_
  · refine xR_aln 53 0 dH_note_53 rfl rfl ?_
    refine xR_callVic 54 cv_H_bad ml_RX8_82 ⟨Nat.le_of_ble_eq_true rfl, Nat.le_of_ble_eq_true rfl⟩ xcf6 rfl 81 (by decide) rfl [] rfl rfl (Nat.le_of_ble_eq_true rfl) dH_note_54 (kH_bad G z m) (fun r54 => ?_)
    exact xR_iret 57 rfl rfl dH_note_57
  · refine xR_iln 14 2 dH_note_14 rfl rfl ?_
    refine xR_ic 15 (0 : Int32) dH_note_15 (by decide) ?_
    refine xR_bp 16 (99 : Int32) dH_note_16 (by decide) ?_
    refine xR_callSi 18 cs_H_within ml_RX8_78 ⟨Nat.le_of_ble_eq_true rfl, Nat.le_of_ble_eq_true rfl⟩ [.int v2, .int (0 : Int32), .int (99 : Int32)] rfl rfl (Nat.le_of_ble_eq_true rfl) dH_note_18 (kH_within G (m, z) v2 (0 : Int32) (99 : Int32)) (fun r18 => ?_)
    refine xR_ifeq 21 53 dH_note_21 (by decide) ?_ ?_
    · refine xR_aln 53 0 dH_note_53 rfl rfl ?_
      refine xR_callVic 54 cv_H_bad ml_RX8_82 ⟨Nat.le_of_ble_eq_true rfl, Nat.le_of_ble_eq_true rfl⟩ xcf6 rfl 81 (by decide) rfl [] rfl rfl (Nat.le_of_ble_eq_true rfl) dH_note_54 (kH_bad G z m) (fun r54 => ?_)
      exact xR_iret 57 rfl rfl dH_note_57
    · refine xR_iln 24 3 dH_note_24 rfl rfl ?_
      refine xR_ic 25 (0 : Int32) dH_note_25 (by decide) ?_
      refine xR_bp 26 (9 : Int32) dH_note_26 (by decide) ?_
      refine xR_callSi 28 cs_H_within ml_RX8_78 ⟨Nat.le_of_ble_eq_true rfl, Nat.le_of_ble_eq_true rfl⟩ [.int v3, .int (0 : Int32), .int (9 : Int32)] rfl rfl (Nat.le_of_ble_eq_true rfl) dH_note_28 (kH_within G (m, z) v3 (0 : Int32) (9 : Int32)) (fun r28 => ?_)
      refine xR_ifeq 31 53 dH_note_31 (by decide) ?_ ?_
      · refine xR_aln 53 0 dH_note_53 rfl rfl ?_
        refine xR_callVic 54 cv_H_bad ml_RX8_82 ⟨Nat.le_of_ble_eq_true rfl, Nat.le_of_ble_eq_true rfl⟩ xcf6 rfl 81 (by decide) rfl [] rfl rfl (Nat.le_of_ble_eq_true rfl) dH_note_54 (kH_bad G z m) (fun r54 => ?_)
        exact xR_iret 57 rfl rfl dH_note_57
      · refine xR_il 34 4 dH_note_34 rfl ?_
        refine xR_callSi 36 cs_H_isString ml_RX8_176 ⟨Nat.le_of_ble_eq_true rfl, Nat.le_of_ble_eq_true rfl⟩ [.int v4] rfl rfl (Nat.le_of_ble_eq_true rfl) dH_note_36 (kH_isString G (m, z) v4) (fun r36 => ?_)
        refine xR_ifeq 39 53 dH_note_39 (by decide) ?_ ?_
        · refine xR_aln 53 0 dH_note_53 rfl rfl ?_
          refine xR_callVic 54 cv_H_bad ml_RX8_82 ⟨Nat.le_of_ble_eq_true rfl, Nat.le_of_ble_eq_true rfl⟩ xcf6 rfl 81 (by decide) rfl [] rfl rfl (Nat.le_of_ble_eq_true rfl) dH_note_54 (kH_bad G z m) (fun r54 => ?_)
          exact xR_iret 57 rfl rfl dH_note_57
        · refine xR_il 42 5 dH_note_42 rfl ?_
          refine xR_ic 44 (0 : Int32) dH_note_44 (by decide) ?_
          refine xR_bp 45 (60 : Int32) dH_note_45 (by decide) ?_
          refine xR_callSi 47 cs_H_within ml_RX8_78 ⟨Nat.le_of_ble_eq_true rfl, Nat.le_of_ble_eq_true rfl⟩ [.int v5, .int (0 : Int32), .int (60 : Int32)] rfl rfl (Nat.le_of_ble_eq_true rfl) dH_note_47 (kH_within G (m, z) v5 (0 : Int32) (60 : Int32)) (fun r47 => ?_)
          refine xR_ifne 50 58 dH_note_50 (by decide) ?_ ?_
          · refine xR_aln 58 0 dH_note_58 rfl rfl ?_
            refine xR_getf 59 xcf6 0 81 (by decide) (by decide) rfl (v := .ref (xa G 77)) rfl fl_RX8_10 dH_note_59 ?_
            refine xR_getf 62 xcf5 5 77 (by decide) (by decide) (xC_twn (t := 0) (by decide)) (v := .ref (xa G 41)) rfl fl_RX8_243 dH_note_62 ?_
            refine xR_callVic 65 cv_T_newRow ml_RX8_127 ⟨Nat.le_of_ble_eq_true rfl, Nat.le_of_ble_eq_true rfl⟩ xcf3 rfl 41 (by decide) (xC_tab (t := 5) (by decide)) [] rfl rfl (Nat.le_of_ble_eq_true rfl) dH_note_65 (kT_newRow G 5 (by decide) z m) (fun r65 => ?_)
            refine xR_is 68 ([(6, .int r65.1), (0, .ref (xa G 81)), (1, .int v1), (2, .int v2), (3, .int v3), (4, .int v4), (5, .int v5)]) dH_note_68 (by decide) rfl ?_
            refine xR_il 70 0 dH_note_70 rfl ?_
            refine xR_ic 72 (-1 : Int32) dH_note_72 (by decide) ?_
            refine xR_icne 73 81 dH_note_73 (by decide) ?_ ?_
            · refine xR_aln 81 1 dH_note_81 rfl rfl ?_
              refine xR_getf 82 xcf6 0 81 (by decide) (by decide) rfl (v := .ref (xa G 77)) rfl fl_RX8_10 dH_note_82 ?_
              refine xR_getf 85 xcf5 5 77 (by decide) (by decide) (xC_twn (t := 0) (by decide)) (v := .ref (xa G 41)) rfl fl_RX8_243 dH_note_85 ?_
              refine xR_il 88 0 dH_note_88 rfl ?_
              refine xR_ic 90 (0 : Int32) dH_note_90 (by decide) ?_
              refine xR_iln 91 2 dH_note_91 rfl rfl ?_
              refine xR_callVvc 92 cv_T_put ml_RX8_91 ⟨Nat.le_of_ble_eq_true rfl, Nat.le_of_ble_eq_true rfl⟩ xcf3 rfl 41 (by decide) (xC_tab (t := 5) (by decide)) [.int r65.1, .int (0 : Int32), .int v1] rfl rfl (Nat.le_of_ble_eq_true rfl) dH_note_92 (kT_put G 5 (by decide) z r65.2 r65.1 (0 : Int32) v1) (fun r92 => ?_)
              refine xR_aln 95 1 dH_note_95 rfl rfl ?_
              refine xR_getf 96 xcf6 0 81 (by decide) (by decide) rfl (v := .ref (xa G 77)) rfl fl_RX8_10 dH_note_96 ?_
              refine xR_getf 99 xcf5 5 77 (by decide) (by decide) (xC_twn (t := 0) (by decide)) (v := .ref (xa G 41)) rfl fl_RX8_243 dH_note_99 ?_
              refine xR_il 102 0 dH_note_102 rfl ?_
              refine xR_ic 104 (1 : Int32) dH_note_104 (by decide) ?_
              refine xR_iln 105 3 dH_note_105 rfl rfl ?_
              refine xR_callVvc 106 cv_T_put ml_RX8_91 ⟨Nat.le_of_ble_eq_true rfl, Nat.le_of_ble_eq_true rfl⟩ xcf3 rfl 41 (by decide) (xC_tab (t := 5) (by decide)) [.int r65.1, .int (1 : Int32), .int v2] rfl rfl (Nat.le_of_ble_eq_true rfl) dH_note_106 (kT_put G 5 (by decide) z r92 r65.1 (1 : Int32) v2) (fun r106 => ?_)
              refine xR_aln 109 1 dH_note_109 rfl rfl ?_
              refine xR_getf 110 xcf6 0 81 (by decide) (by decide) rfl (v := .ref (xa G 77)) rfl fl_RX8_10 dH_note_110 ?_
              refine xR_getf 113 xcf5 5 77 (by decide) (by decide) (xC_twn (t := 0) (by decide)) (v := .ref (xa G 41)) rfl fl_RX8_243 dH_note_113 ?_
              refine xR_il 116 0 dH_note_116 rfl ?_
              refine xR_ic 118 (2 : Int32) dH_note_118 (by decide) ?_
              refine xR_iln 119 4 dH_note_119 rfl rfl ?_
              refine xR_callVvc 120 cv_T_put ml_RX8_91 ⟨Nat.le_of_ble_eq_true rfl, Nat.le_of_ble_eq_true rfl⟩ xcf3 rfl 41 (by decide) (xC_tab (t := 5) (by decide)) [.int r65.1, .int (2 : Int32), .int v3] rfl rfl (Nat.le_of_ble_eq_true rfl) dH_note_120 (kT_put G 5 (by decide) z r106 r65.1 (2 : Int32) v3) (fun r120 => ?_)
              refine xR_aln 123 1 dH_note_123 rfl rfl ?_
              refine xR_getf 124 xcf6 0 81 (by decide) (by decide) rfl (v := .ref (xa G 77)) rfl fl_RX8_10 dH_note_124 ?_
              refine xR_getf 127 xcf5 5 77 (by decide) (by decide) (xC_twn (t := 0) (by decide)) (v := .ref (xa G 41)) rfl fl_RX8_243 dH_note_127 ?_
              refine xR_il 130 0 dH_note_130 rfl ?_
              refine xR_ic 132 (3 : Int32) dH_note_132 (by decide) ?_
              refine xR_il 133 5 dH_note_133 rfl ?_
              refine xR_callVvc 135 cv_T_put ml_RX8_91 ⟨Nat.le_of_ble_eq_true rfl, Nat.le_of_ble_eq_true rfl⟩ xcf3 rfl 41 (by decide) (xC_tab (t := 5) (by decide)) [.int r65.1, .int (3 : Int32), .int v4] rfl rfl (Nat.le_of_ble_eq_true rfl) dH_note_135 (kT_put G 5 (by decide) z r120 r65.1 (3 : Int32) v4) (fun r135 => ?_)
              refine xR_aln 138 1 dH_note_138 rfl rfl ?_
              refine xR_getf 139 xcf6 0 81 (by decide) (by decide) rfl (v := .ref (xa G 77)) rfl fl_RX8_10 dH_note_139 ?_
              refine xR_getf 142 xcf5 5 77 (by decide) (by decide) (xC_twn (t := 0) (by decide)) (v := .ref (xa G 41)) rfl fl_RX8_243 dH_note_142 ?_
              refine xR_il 145 0 dH_note_145 rfl ?_
              refine xR_ic 147 (4 : Int32) dH_note_147 (by decide) ?_
              refine xR_il 148 6 dH_note_148 rfl ?_
              refine xR_callVvc 150 cv_T_put ml_RX8_91 ⟨Nat.le_of_ble_eq_true rfl, Nat.le_of_ble_eq_true rfl⟩ xcf3 rfl 41 (by decide) (xC_tab (t := 5) (by decide)) [.int r65.1, .int (4 : Int32), .int v5] rfl rfl (Nat.le_of_ble_eq_true rfl) dH_note_150 (kT_put G 5 (by decide) z r135 r65.1 (4 : Int32) v5) (fun r150 => ?_)
              refine xR_aln 153 1 dH_note_153 rfl rfl ?_
              refine xR_getf 154 xcf6 0 81 (by decide) (by decide) rfl (v := .ref (xa G 77)) rfl fl_RX8_10 dH_note_154 ?_
              refine xR_getf 157 xcf5 5 77 (by decide) (by decide) (xC_twn (t := 0) (by decide)) (v := .ref (xa G 41)) rfl fl_RX8_243 dH_note_157 ?_
              refine xR_callVi 160 cv_T_many ml_RX8_113 ⟨Nat.le_of_ble_eq_true rfl, Nat.le_of_ble_eq_true rfl⟩ xcf3 rfl 41 (by decide) (xC_tab (t := 5) (by decide)) [] rfl rfl (Nat.le_of_ble_eq_true rfl) dH_note_160 (kT_many G 5 (by decide) z r150) (fun r160 => ?_)
              exact xR_iret 163 rfl rfl dH_note_163
            · refine xR_aln 76 1 dH_note_76 rfl rfl ?_
              refine xR_callVic 77 cv_H_full ml_RX8_103 ⟨Nat.le_of_ble_eq_true rfl, Nat.le_of_ble_eq_true rfl⟩ xcf6 rfl 81 (by decide) rfl [] rfl rfl (Nat.le_of_ble_eq_true rfl) dH_note_77 (kH_full G z r65.2) (fun r77 => ?_)
              exact xR_iret 80 rfl rfl dH_note_80
          · refine xR_aln 53 0 dH_note_53 rfl rfl ?_
            refine xR_callVic 54 cv_H_bad ml_RX8_82 ⟨Nat.le_of_ble_eq_true rfl, Nat.le_of_ble_eq_true rfl⟩ xcf6 rfl 81 (by decide) rfl [] rfl rfl (Nat.le_of_ble_eq_true rfl) dH_note_54 (kH_bad G z m) (fun r54 => ?_)
            exact xR_iret 57 rfl rfl dH_note_57
theorem dH_mark_0 : decode (xb yyH_mark) 0 = .ok (.aload_n 0, 1) := by decide +kernel
theorem dH_mark_1 : decode (xb yyH_mark) 1 = .ok (.getfield 10, 3) := by decide +kernel
theorem dH_mark_4 : decode (xb yyH_mark) 4 = .ok (.iload_n 1, 1) := by decide +kernel
theorem dH_mark_5 : decode (xb yyH_mark) 5 = .ok (.invokevirtual 151, 3) := by decide +kernel
theorem dH_mark_8 : decode (xb yyH_mark) 8 = .ok (.ifCond .eq 53, 3) := by decide +kernel
theorem dH_mark_11 : decode (xb yyH_mark) 11 = .ok (.iload_n 2, 1) := by decide +kernel
theorem dH_mark_12 : decode (xb yyH_mark) 12 = .ok (.iconst 0, 1) := by decide +kernel
theorem dH_mark_13 : decode (xb yyH_mark) 13 = .ok (.sipush 200, 3) := by decide +kernel
theorem dH_mark_16 : decode (xb yyH_mark) 16 = .ok (.invokestatic 78, 3) := by decide +kernel
theorem dH_mark_19 : decode (xb yyH_mark) 19 = .ok (.ifCond .eq 42, 3) := by decide +kernel
theorem dH_mark_22 : decode (xb yyH_mark) 22 = .ok (.iload_n 3, 1) := by decide +kernel
theorem dH_mark_23 : decode (xb yyH_mark) 23 = .ok (.iconst 0, 1) := by decide +kernel
theorem dH_mark_24 : decode (xb yyH_mark) 24 = .ok (.iconst 4, 1) := by decide +kernel
theorem dH_mark_25 : decode (xb yyH_mark) 25 = .ok (.invokestatic 78, 3) := by decide +kernel
theorem dH_mark_28 : decode (xb yyH_mark) 28 = .ok (.ifCond .eq 33, 3) := by decide +kernel
theorem dH_mark_31 : decode (xb yyH_mark) 31 = .ok (.iload 4, 2) := by decide +kernel
theorem dH_mark_33 : decode (xb yyH_mark) 33 = .ok (.iconst 0, 1) := by decide +kernel
theorem dH_mark_34 : decode (xb yyH_mark) 34 = .ok (.iconst 4, 1) := by decide +kernel
theorem dH_mark_35 : decode (xb yyH_mark) 35 = .ok (.invokestatic 78, 3) := by decide +kernel
theorem dH_mark_38 : decode (xb yyH_mark) 38 = .ok (.ifCond .eq 23, 3) := by decide +kernel
theorem dH_mark_41 : decode (xb yyH_mark) 41 = .ok (.iload 5, 2) := by decide +kernel
theorem dH_mark_43 : decode (xb yyH_mark) 43 = .ok (.invokestatic 176, 3) := by decide +kernel
theorem dH_mark_46 : decode (xb yyH_mark) 46 = .ok (.ifCond .eq 15, 3) := by decide +kernel
theorem dH_mark_49 : decode (xb yyH_mark) 49 = .ok (.iload 6, 2) := by decide +kernel
theorem dH_mark_51 : decode (xb yyH_mark) 51 = .ok (.iconst 0, 1) := by decide +kernel
theorem dH_mark_52 : decode (xb yyH_mark) 52 = .ok (.sipush 400, 3) := by decide +kernel
theorem dH_mark_55 : decode (xb yyH_mark) 55 = .ok (.invokestatic 78, 3) := by decide +kernel
theorem dH_mark_58 : decode (xb yyH_mark) 58 = .ok (.ifCond .ne 8, 3) := by decide +kernel
theorem dH_mark_61 : decode (xb yyH_mark) 61 = .ok (.aload_n 0, 1) := by decide +kernel
theorem dH_mark_62 : decode (xb yyH_mark) 62 = .ok (.invokevirtual 82, 3) := by decide +kernel
theorem dH_mark_65 : decode (xb yyH_mark) 65 = .ok (.ireturn, 1) := by decide +kernel
theorem dH_mark_66 : decode (xb yyH_mark) 66 = .ok (.aload_n 0, 1) := by decide +kernel
theorem dH_mark_67 : decode (xb yyH_mark) 67 = .ok (.getfield 10, 3) := by decide +kernel
theorem dH_mark_70 : decode (xb yyH_mark) 70 = .ok (.getfield 246, 3) := by decide +kernel
theorem dH_mark_73 : decode (xb yyH_mark) 73 = .ok (.invokevirtual 127, 3) := by decide +kernel
theorem dH_mark_76 : decode (xb yyH_mark) 76 = .ok (.istore 7, 2) := by decide +kernel
theorem dH_mark_78 : decode (xb yyH_mark) 78 = .ok (.iload 7, 2) := by decide +kernel
theorem dH_mark_80 : decode (xb yyH_mark) 80 = .ok (.iconst (-1), 1) := by decide +kernel
theorem dH_mark_81 : decode (xb yyH_mark) 81 = .ok (.if_icmp .ne 8, 3) := by decide +kernel
theorem dH_mark_84 : decode (xb yyH_mark) 84 = .ok (.aload_n 0, 1) := by decide +kernel
theorem dH_mark_85 : decode (xb yyH_mark) 85 = .ok (.invokevirtual 103, 3) := by decide +kernel
theorem dH_mark_88 : decode (xb yyH_mark) 88 = .ok (.ireturn, 1) := by decide +kernel
theorem dH_mark_89 : decode (xb yyH_mark) 89 = .ok (.aload_n 0, 1) := by decide +kernel
theorem dH_mark_90 : decode (xb yyH_mark) 90 = .ok (.getfield 10, 3) := by decide +kernel
theorem dH_mark_93 : decode (xb yyH_mark) 93 = .ok (.getfield 246, 3) := by decide +kernel
theorem dH_mark_96 : decode (xb yyH_mark) 96 = .ok (.iload 7, 2) := by decide +kernel
theorem dH_mark_98 : decode (xb yyH_mark) 98 = .ok (.iconst 0, 1) := by decide +kernel
theorem dH_mark_99 : decode (xb yyH_mark) 99 = .ok (.iload_n 1, 1) := by decide +kernel
theorem dH_mark_100 : decode (xb yyH_mark) 100 = .ok (.invokevirtual 91, 3) := by decide +kernel
theorem dH_mark_103 : decode (xb yyH_mark) 103 = .ok (.aload_n 0, 1) := by decide +kernel
theorem dH_mark_104 : decode (xb yyH_mark) 104 = .ok (.getfield 10, 3) := by decide +kernel
theorem dH_mark_107 : decode (xb yyH_mark) 107 = .ok (.getfield 246, 3) := by decide +kernel
theorem dH_mark_110 : decode (xb yyH_mark) 110 = .ok (.iload 7, 2) := by decide +kernel
theorem dH_mark_112 : decode (xb yyH_mark) 112 = .ok (.iconst 1, 1) := by decide +kernel
theorem dH_mark_113 : decode (xb yyH_mark) 113 = .ok (.iload_n 2, 1) := by decide +kernel
theorem dH_mark_114 : decode (xb yyH_mark) 114 = .ok (.invokevirtual 91, 3) := by decide +kernel
theorem dH_mark_117 : decode (xb yyH_mark) 117 = .ok (.aload_n 0, 1) := by decide +kernel
theorem dH_mark_118 : decode (xb yyH_mark) 118 = .ok (.getfield 10, 3) := by decide +kernel
theorem dH_mark_121 : decode (xb yyH_mark) 121 = .ok (.getfield 246, 3) := by decide +kernel
theorem dH_mark_124 : decode (xb yyH_mark) 124 = .ok (.iload 7, 2) := by decide +kernel
theorem dH_mark_126 : decode (xb yyH_mark) 126 = .ok (.iconst 2, 1) := by decide +kernel
theorem dH_mark_127 : decode (xb yyH_mark) 127 = .ok (.iload_n 3, 1) := by decide +kernel
theorem dH_mark_128 : decode (xb yyH_mark) 128 = .ok (.invokevirtual 91, 3) := by decide +kernel
theorem dH_mark_131 : decode (xb yyH_mark) 131 = .ok (.aload_n 0, 1) := by decide +kernel
theorem dH_mark_132 : decode (xb yyH_mark) 132 = .ok (.getfield 10, 3) := by decide +kernel
theorem dH_mark_135 : decode (xb yyH_mark) 135 = .ok (.getfield 246, 3) := by decide +kernel
theorem dH_mark_138 : decode (xb yyH_mark) 138 = .ok (.iload 7, 2) := by decide +kernel
theorem dH_mark_140 : decode (xb yyH_mark) 140 = .ok (.iconst 3, 1) := by decide +kernel
theorem dH_mark_141 : decode (xb yyH_mark) 141 = .ok (.iload 4, 2) := by decide +kernel
theorem dH_mark_143 : decode (xb yyH_mark) 143 = .ok (.invokevirtual 91, 3) := by decide +kernel
theorem dH_mark_146 : decode (xb yyH_mark) 146 = .ok (.aload_n 0, 1) := by decide +kernel
theorem dH_mark_147 : decode (xb yyH_mark) 147 = .ok (.getfield 10, 3) := by decide +kernel
theorem dH_mark_150 : decode (xb yyH_mark) 150 = .ok (.getfield 246, 3) := by decide +kernel
theorem dH_mark_153 : decode (xb yyH_mark) 153 = .ok (.iload 7, 2) := by decide +kernel
theorem dH_mark_155 : decode (xb yyH_mark) 155 = .ok (.iconst 4, 1) := by decide +kernel
theorem dH_mark_156 : decode (xb yyH_mark) 156 = .ok (.iload 5, 2) := by decide +kernel
theorem dH_mark_158 : decode (xb yyH_mark) 158 = .ok (.invokevirtual 91, 3) := by decide +kernel
theorem dH_mark_161 : decode (xb yyH_mark) 161 = .ok (.aload_n 0, 1) := by decide +kernel
theorem dH_mark_162 : decode (xb yyH_mark) 162 = .ok (.getfield 10, 3) := by decide +kernel
theorem dH_mark_165 : decode (xb yyH_mark) 165 = .ok (.getfield 246, 3) := by decide +kernel
theorem dH_mark_168 : decode (xb yyH_mark) 168 = .ok (.iload 7, 2) := by decide +kernel
theorem dH_mark_170 : decode (xb yyH_mark) 170 = .ok (.iconst 5, 1) := by decide +kernel
theorem dH_mark_171 : decode (xb yyH_mark) 171 = .ok (.iload 6, 2) := by decide +kernel
theorem dH_mark_173 : decode (xb yyH_mark) 173 = .ok (.invokevirtual 91, 3) := by decide +kernel
theorem dH_mark_176 : decode (xb yyH_mark) 176 = .ok (.aload_n 0, 1) := by decide +kernel
theorem dH_mark_177 : decode (xb yyH_mark) 177 = .ok (.getfield 10, 3) := by decide +kernel
theorem dH_mark_180 : decode (xb yyH_mark) 180 = .ok (.getfield 246, 3) := by decide +kernel
theorem dH_mark_183 : decode (xb yyH_mark) 183 = .ok (.invokevirtual 113, 3) := by decide +kernel
theorem dH_mark_186 : decode (xb yyH_mark) 186 = .ok (.ireturn, 1) := by decide +kernel
def fH_mark  (v1 : Int32) (v2 : Int32) (v3 : Int32) (v4 : Int32) (v5 : Int32) (v6 : Int32) (m : xM) : Option (Int32 × xM) := (fW_hasInstrument 0 m v1).bind fun r5 => (if r5 = 0 then (fH_bad m).bind fun r62 => some (r62.1, r62.2) else (fH_within v2 (0 : Int32) (200 : Int32)).bind fun r16 => (if r16 = 0 then (fH_bad m).bind fun r62 => some (r62.1, r62.2) else (fH_within v3 (0 : Int32) (4 : Int32)).bind fun r25 => (if r25 = 0 then (fH_bad m).bind fun r62 => some (r62.1, r62.2) else (fH_within v4 (0 : Int32) (4 : Int32)).bind fun r35 => (if r35 = 0 then (fH_bad m).bind fun r62 => some (r62.1, r62.2) else (fH_isString v5).bind fun r43 => (if r43 = 0 then (fH_bad m).bind fun r62 => some (r62.1, r62.2) else (fH_within v6 (0 : Int32) (400 : Int32)).bind fun r55 => (if r55 = 0 then (fH_bad m).bind fun r62 => some (r62.1, r62.2) else (fT_newRow 6 m).bind fun r73 => (if r73.1 = (-1 : Int32) then (fH_full r73.2).bind fun r85 => some (r85.1, r85.2) else (fT_put 6 r73.1 (0 : Int32) v1 r73.2).bind fun r100 => (fT_put 6 r73.1 (1 : Int32) v2 r100).bind fun r114 => (fT_put 6 r73.1 (2 : Int32) v3 r114).bind fun r128 => (fT_put 6 r73.1 (3 : Int32) v4 r128).bind fun r143 => (fT_put 6 r73.1 (4 : Int32) v5 r143).bind fun r158 => (fT_put 6 r73.1 (5 : Int32) v6 r158).bind fun r173 => (fT_many 6 r173).bind fun r183 => some (r183, r173))))))))
set_option maxRecDepth 100000 in
set_option maxHeartbeats 4000000 in
theorem kH_mark (G : xG)   (z : xM) (m : xM) (v1 : Int32) (v2 : Int32) (v3 : Int32) (v4 : Int32) (v5 : Int32) (v6 : Int32) : ∀ a, fH_mark  v1 v2 v3 v4 v5 v6 m = some a → xCt G yyH_mark [.ref (xa G 81), .int v1, .int v2, .int v3, .int v4, .int v5, .int v6] (m, z) (some (.int a.1)) (a.2, z) := by
  refine xR_ct (em := (emic z)) rfl (Nat.le_of_ble_eq_true rfl) ?_
  show xR G yyH_mark _ 0 [(0, .ref (xa G 81)), (1, .int v1), (2, .int v2), (3, .int v3), (4, .int v4), (5, .int v5), (6, .int v6)] [] _ _
  unfold fH_mark
  refine xR_aln 0 0 dH_mark_0 rfl rfl ?_
  refine xR_getf 1 xcf6 0 81 (by decide) (by decide) rfl (v := .ref (xa G 77)) rfl fl_RX8_10 dH_mark_1 ?_
  refine xR_iln 4 1 dH_mark_4 rfl rfl ?_
  refine xR_callVi 5 cv_W_hasInstrument ml_RX8_151 ⟨Nat.le_of_ble_eq_true rfl, Nat.le_of_ble_eq_true rfl⟩ xcf5 rfl 77 (by decide) (xC_twn (t := 0) (by decide)) [.int v1] rfl rfl (Nat.le_of_ble_eq_true rfl) dH_mark_5 (kW_hasInstrument G 0 (by decide) z m v1) (fun r5 => ?_)
  refine xR_ifeq 8 61 dH_mark_8 (by decide) ?_ ?_
  · refine xR_aln 61 0 dH_mark_61 rfl rfl ?_
    refine xR_callVic 62 cv_H_bad ml_RX8_82 ⟨Nat.le_of_ble_eq_true rfl, Nat.le_of_ble_eq_true rfl⟩ xcf6 rfl 81 (by decide) rfl [] rfl rfl (Nat.le_of_ble_eq_true rfl) dH_mark_62 (kH_bad G z m) (fun r62 => ?_)
    exact xR_iret 65 rfl rfl dH_mark_65
  · refine xR_iln 11 2 dH_mark_11 rfl rfl ?_
    refine xR_ic 12 (0 : Int32) dH_mark_12 (by decide) ?_
    refine xR_sp 13 (200 : Int32) dH_mark_13 (by decide) ?_
    refine xR_callSi 16 cs_H_within ml_RX8_78 ⟨Nat.le_of_ble_eq_true rfl, Nat.le_of_ble_eq_true rfl⟩ [.int v2, .int (0 : Int32), .int (200 : Int32)] rfl rfl (Nat.le_of_ble_eq_true rfl) dH_mark_16 (kH_within G (m, z) v2 (0 : Int32) (200 : Int32)) (fun r16 => ?_)
    refine xR_ifeq 19 61 dH_mark_19 (by decide) ?_ ?_
    · refine xR_aln 61 0 dH_mark_61 rfl rfl ?_
      refine xR_callVic 62 cv_H_bad ml_RX8_82 ⟨Nat.le_of_ble_eq_true rfl, Nat.le_of_ble_eq_true rfl⟩ xcf6 rfl 81 (by decide) rfl [] rfl rfl (Nat.le_of_ble_eq_true rfl) dH_mark_62 (kH_bad G z m) (fun r62 => ?_)
      exact xR_iret 65 rfl rfl dH_mark_65
    · refine xR_iln 22 3 dH_mark_22 rfl rfl ?_
      refine xR_ic 23 (0 : Int32) dH_mark_23 (by decide) ?_
      refine xR_ic 24 (4 : Int32) dH_mark_24 (by decide) ?_
      refine xR_callSi 25 cs_H_within ml_RX8_78 ⟨Nat.le_of_ble_eq_true rfl, Nat.le_of_ble_eq_true rfl⟩ [.int v3, .int (0 : Int32), .int (4 : Int32)] rfl rfl (Nat.le_of_ble_eq_true rfl) dH_mark_25 (kH_within G (m, z) v3 (0 : Int32) (4 : Int32)) (fun r25 => ?_)
      refine xR_ifeq 28 61 dH_mark_28 (by decide) ?_ ?_
      · refine xR_aln 61 0 dH_mark_61 rfl rfl ?_
        refine xR_callVic 62 cv_H_bad ml_RX8_82 ⟨Nat.le_of_ble_eq_true rfl, Nat.le_of_ble_eq_true rfl⟩ xcf6 rfl 81 (by decide) rfl [] rfl rfl (Nat.le_of_ble_eq_true rfl) dH_mark_62 (kH_bad G z m) (fun r62 => ?_)
        exact xR_iret 65 rfl rfl dH_mark_65
      · refine xR_il 31 4 dH_mark_31 rfl ?_
        refine xR_ic 33 (0 : Int32) dH_mark_33 (by decide) ?_
        refine xR_ic 34 (4 : Int32) dH_mark_34 (by decide) ?_
        refine xR_callSi 35 cs_H_within ml_RX8_78 ⟨Nat.le_of_ble_eq_true rfl, Nat.le_of_ble_eq_true rfl⟩ [.int v4, .int (0 : Int32), .int (4 : Int32)] rfl rfl (Nat.le_of_ble_eq_true rfl) dH_mark_35 (kH_within G (m, z) v4 (0 : Int32) (4 : Int32)) (fun r35 => ?_)
        refine xR_ifeq 38 61 dH_mark_38 (by decide) ?_ ?_
        · refine xR_aln 61 0 dH_mark_61 rfl rfl ?_
          refine xR_callVic 62 cv_H_bad ml_RX8_82 ⟨Nat.le_of_ble_eq_true rfl, Nat.le_of_ble_eq_true rfl⟩ xcf6 rfl 81 (by decide) rfl [] rfl rfl (Nat.le_of_ble_eq_true rfl) dH_mark_62 (kH_bad G z m) (fun r62 => ?_)
          exact xR_iret 65 rfl rfl dH_mark_65
        · refine xR_il 41 5 dH_mark_41 rfl ?_
          refine xR_callSi 43 cs_H_isString ml_RX8_176 ⟨Nat.le_of_ble_eq_true rfl, Nat.le_of_ble_eq_true rfl⟩ [.int v5] rfl rfl (Nat.le_of_ble_eq_true rfl) dH_mark_43 (kH_isString G (m, z) v5) (fun r43 => ?_)
          refine xR_ifeq 46 61 dH_mark_46 (by decide) ?_ ?_
          · refine xR_aln 61 0 dH_mark_61 rfl rfl ?_
            refine xR_callVic 62 cv_H_bad ml_RX8_82 ⟨Nat.le_of_ble_eq_true rfl, Nat.le_of_ble_eq_true rfl⟩ xcf6 rfl 81 (by decide) rfl [] rfl rfl (Nat.le_of_ble_eq_true rfl) dH_mark_62 (kH_bad G z m) (fun r62 => ?_)
            exact xR_iret 65 rfl rfl dH_mark_65
          · refine xR_il 49 6 dH_mark_49 rfl ?_
            refine xR_ic 51 (0 : Int32) dH_mark_51 (by decide) ?_
            refine xR_sp 52 (400 : Int32) dH_mark_52 (by decide) ?_
            refine xR_callSi 55 cs_H_within ml_RX8_78 ⟨Nat.le_of_ble_eq_true rfl, Nat.le_of_ble_eq_true rfl⟩ [.int v6, .int (0 : Int32), .int (400 : Int32)] rfl rfl (Nat.le_of_ble_eq_true rfl) dH_mark_55 (kH_within G (m, z) v6 (0 : Int32) (400 : Int32)) (fun r55 => ?_)
            refine xR_ifne 58 66 dH_mark_58 (by decide) ?_ ?_
            · refine xR_aln 66 0 dH_mark_66 rfl rfl ?_
              refine xR_getf 67 xcf6 0 81 (by decide) (by decide) rfl (v := .ref (xa G 77)) rfl fl_RX8_10 dH_mark_67 ?_
              refine xR_getf 70 xcf5 6 77 (by decide) (by decide) (xC_twn (t := 0) (by decide)) (v := .ref (xa G 42)) rfl fl_RX8_246 dH_mark_70 ?_
              refine xR_callVic 73 cv_T_newRow ml_RX8_127 ⟨Nat.le_of_ble_eq_true rfl, Nat.le_of_ble_eq_true rfl⟩ xcf3 rfl 42 (by decide) (xC_tab (t := 6) (by decide)) [] rfl rfl (Nat.le_of_ble_eq_true rfl) dH_mark_73 (kT_newRow G 6 (by decide) z m) (fun r73 => ?_)
              refine xR_is 76 ([(7, .int r73.1), (0, .ref (xa G 81)), (1, .int v1), (2, .int v2), (3, .int v3), (4, .int v4), (5, .int v5), (6, .int v6)]) dH_mark_76 (by decide) rfl ?_
              refine xR_il 78 0 dH_mark_78 rfl ?_
              refine xR_ic 80 (-1 : Int32) dH_mark_80 (by decide) ?_
              refine xR_icne 81 89 dH_mark_81 (by decide) ?_ ?_
              · refine xR_aln 89 1 dH_mark_89 rfl rfl ?_
                refine xR_getf 90 xcf6 0 81 (by decide) (by decide) rfl (v := .ref (xa G 77)) rfl fl_RX8_10 dH_mark_90 ?_
                refine xR_getf 93 xcf5 6 77 (by decide) (by decide) (xC_twn (t := 0) (by decide)) (v := .ref (xa G 42)) rfl fl_RX8_246 dH_mark_93 ?_
                refine xR_il 96 0 dH_mark_96 rfl ?_
                refine xR_ic 98 (0 : Int32) dH_mark_98 (by decide) ?_
                refine xR_iln 99 2 dH_mark_99 rfl rfl ?_
                refine xR_callVvc 100 cv_T_put ml_RX8_91 ⟨Nat.le_of_ble_eq_true rfl, Nat.le_of_ble_eq_true rfl⟩ xcf3 rfl 42 (by decide) (xC_tab (t := 6) (by decide)) [.int r73.1, .int (0 : Int32), .int v1] rfl rfl (Nat.le_of_ble_eq_true rfl) dH_mark_100 (kT_put G 6 (by decide) z r73.2 r73.1 (0 : Int32) v1) (fun r100 => ?_)
                refine xR_aln 103 1 dH_mark_103 rfl rfl ?_
                refine xR_getf 104 xcf6 0 81 (by decide) (by decide) rfl (v := .ref (xa G 77)) rfl fl_RX8_10 dH_mark_104 ?_
                refine xR_getf 107 xcf5 6 77 (by decide) (by decide) (xC_twn (t := 0) (by decide)) (v := .ref (xa G 42)) rfl fl_RX8_246 dH_mark_107 ?_
                refine xR_il 110 0 dH_mark_110 rfl ?_
                refine xR_ic 112 (1 : Int32) dH_mark_112 (by decide) ?_
                refine xR_iln 113 3 dH_mark_113 rfl rfl ?_
                refine xR_callVvc 114 cv_T_put ml_RX8_91 ⟨Nat.le_of_ble_eq_true rfl, Nat.le_of_ble_eq_true rfl⟩ xcf3 rfl 42 (by decide) (xC_tab (t := 6) (by decide)) [.int r73.1, .int (1 : Int32), .int v2] rfl rfl (Nat.le_of_ble_eq_true rfl) dH_mark_114 (kT_put G 6 (by decide) z r100 r73.1 (1 : Int32) v2) (fun r114 => ?_)
                refine xR_aln 117 1 dH_mark_117 rfl rfl ?_
                refine xR_getf 118 xcf6 0 81 (by decide) (by decide) rfl (v := .ref (xa G 77)) rfl fl_RX8_10 dH_mark_118 ?_
                refine xR_getf 121 xcf5 6 77 (by decide) (by decide) (xC_twn (t := 0) (by decide)) (v := .ref (xa G 42)) rfl fl_RX8_246 dH_mark_121 ?_
                refine xR_il 124 0 dH_mark_124 rfl ?_
                refine xR_ic 126 (2 : Int32) dH_mark_126 (by decide) ?_
                refine xR_iln 127 4 dH_mark_127 rfl rfl ?_
                refine xR_callVvc 128 cv_T_put ml_RX8_91 ⟨Nat.le_of_ble_eq_true rfl, Nat.le_of_ble_eq_true rfl⟩ xcf3 rfl 42 (by decide) (xC_tab (t := 6) (by decide)) [.int r73.1, .int (2 : Int32), .int v3] rfl rfl (Nat.le_of_ble_eq_true rfl) dH_mark_128 (kT_put G 6 (by decide) z r114 r73.1 (2 : Int32) v3) (fun r128 => ?_)
                refine xR_aln 131 1 dH_mark_131 rfl rfl ?_
                refine xR_getf 132 xcf6 0 81 (by decide) (by decide) rfl (v := .ref (xa G 77)) rfl fl_RX8_10 dH_mark_132 ?_
                refine xR_getf 135 xcf5 6 77 (by decide) (by decide) (xC_twn (t := 0) (by decide)) (v := .ref (xa G 42)) rfl fl_RX8_246 dH_mark_135 ?_
                refine xR_il 138 0 dH_mark_138 rfl ?_
                refine xR_ic 140 (3 : Int32) dH_mark_140 (by decide) ?_
                refine xR_il 141 5 dH_mark_141 rfl ?_
                refine xR_callVvc 143 cv_T_put ml_RX8_91 ⟨Nat.le_of_ble_eq_true rfl, Nat.le_of_ble_eq_true rfl⟩ xcf3 rfl 42 (by decide) (xC_tab (t := 6) (by decide)) [.int r73.1, .int (3 : Int32), .int v4] rfl rfl (Nat.le_of_ble_eq_true rfl) dH_mark_143 (kT_put G 6 (by decide) z r128 r73.1 (3 : Int32) v4) (fun r143 => ?_)
                refine xR_aln 146 1 dH_mark_146 rfl rfl ?_
                refine xR_getf 147 xcf6 0 81 (by decide) (by decide) rfl (v := .ref (xa G 77)) rfl fl_RX8_10 dH_mark_147 ?_
                refine xR_getf 150 xcf5 6 77 (by decide) (by decide) (xC_twn (t := 0) (by decide)) (v := .ref (xa G 42)) rfl fl_RX8_246 dH_mark_150 ?_
                refine xR_il 153 0 dH_mark_153 rfl ?_
                refine xR_ic 155 (4 : Int32) dH_mark_155 (by decide) ?_
                refine xR_il 156 6 dH_mark_156 rfl ?_
                refine xR_callVvc 158 cv_T_put ml_RX8_91 ⟨Nat.le_of_ble_eq_true rfl, Nat.le_of_ble_eq_true rfl⟩ xcf3 rfl 42 (by decide) (xC_tab (t := 6) (by decide)) [.int r73.1, .int (4 : Int32), .int v5] rfl rfl (Nat.le_of_ble_eq_true rfl) dH_mark_158 (kT_put G 6 (by decide) z r143 r73.1 (4 : Int32) v5) (fun r158 => ?_)
                refine xR_aln 161 1 dH_mark_161 rfl rfl ?_
                refine xR_getf 162 xcf6 0 81 (by decide) (by decide) rfl (v := .ref (xa G 77)) rfl fl_RX8_10 dH_mark_162 ?_
                refine xR_getf 165 xcf5 6 77 (by decide) (by decide) (xC_twn (t := 0) (by decide)) (v := .ref (xa G 42)) rfl fl_RX8_246 dH_mark_165 ?_
                refine xR_il 168 0 dH_mark_168 rfl ?_
                refine xR_ic 170 (5 : Int32) dH_mark_170 (by decide) ?_
                refine xR_il 171 7 dH_mark_171 rfl ?_
                refine xR_callVvc 173 cv_T_put ml_RX8_91 ⟨Nat.le_of_ble_eq_true rfl, Nat.le_of_ble_eq_true rfl⟩ xcf3 rfl 42 (by decide) (xC_tab (t := 6) (by decide)) [.int r73.1, .int (5 : Int32), .int v6] rfl rfl (Nat.le_of_ble_eq_true rfl) dH_mark_173 (kT_put G 6 (by decide) z r158 r73.1 (5 : Int32) v6) (fun r173 => ?_)
                refine xR_aln 176 1 dH_mark_176 rfl rfl ?_
                refine xR_getf 177 xcf6 0 81 (by decide) (by decide) rfl (v := .ref (xa G 77)) rfl fl_RX8_10 dH_mark_177 ?_
                refine xR_getf 180 xcf5 6 77 (by decide) (by decide) (xC_twn (t := 0) (by decide)) (v := .ref (xa G 42)) rfl fl_RX8_246 dH_mark_180 ?_
                refine xR_callVi 183 cv_T_many ml_RX8_113 ⟨Nat.le_of_ble_eq_true rfl, Nat.le_of_ble_eq_true rfl⟩ xcf3 rfl 42 (by decide) (xC_tab (t := 6) (by decide)) [] rfl rfl (Nat.le_of_ble_eq_true rfl) dH_mark_183 (kT_many G 6 (by decide) z r173) (fun r183 => ?_)
                exact xR_iret 186 rfl rfl dH_mark_186
              · refine xR_aln 84 1 dH_mark_84 rfl rfl ?_
                refine xR_callVic 85 cv_H_full ml_RX8_103 ⟨Nat.le_of_ble_eq_true rfl, Nat.le_of_ble_eq_true rfl⟩ xcf6 rfl 81 (by decide) rfl [] rfl rfl (Nat.le_of_ble_eq_true rfl) dH_mark_85 (kH_full G z r73.2) (fun r85 => ?_)
                exact xR_iret 88 rfl rfl dH_mark_88
            · refine xR_aln 61 0 dH_mark_61 rfl rfl ?_
              refine xR_callVic 62 cv_H_bad ml_RX8_82 ⟨Nat.le_of_ble_eq_true rfl, Nat.le_of_ble_eq_true rfl⟩ xcf6 rfl 81 (by decide) rfl [] rfl rfl (Nat.le_of_ble_eq_true rfl) dH_mark_62 (kH_bad G z m) (fun r62 => ?_)
              exact xR_iret 65 rfl rfl dH_mark_65
theorem dH_forget_0 : decode (xb yyH_forget) 0 = .ok (.iload_n 1, 1) := by decide +kernel
theorem dH_forget_1 : decode (xb yyH_forget) 1 = .ok (.iconst 0, 1) := by decide +kernel
theorem dH_forget_2 : decode (xb yyH_forget) 2 = .ok (.iconst 2, 1) := by decide +kernel
theorem dH_forget_3 : decode (xb yyH_forget) 3 = .ok (.invokestatic 78, 3) := by decide +kernel
theorem dH_forget_6 : decode (xb yyH_forget) 6 = .ok (.ifCond .ne 8, 3) := by decide +kernel
theorem dH_forget_9 : decode (xb yyH_forget) 9 = .ok (.aload_n 0, 1) := by decide +kernel
theorem dH_forget_10 : decode (xb yyH_forget) 10 = .ok (.invokevirtual 82, 3) := by decide +kernel
theorem dH_forget_13 : decode (xb yyH_forget) 13 = .ok (.ireturn, 1) := by decide +kernel
theorem dH_forget_14 : decode (xb yyH_forget) 14 = .ok (.iload_n 1, 1) := by decide +kernel
theorem dH_forget_15 : decode (xb yyH_forget) 15 = .ok (.ifCond .ne 13, 3) := by decide +kernel
theorem dH_forget_18 : decode (xb yyH_forget) 18 = .ok (.aload_n 0, 1) := by decide +kernel
theorem dH_forget_19 : decode (xb yyH_forget) 19 = .ok (.getfield 10, 3) := by decide +kernel
theorem dH_forget_22 : decode (xb yyH_forget) 22 = .ok (.getfield 234, 3) := by decide +kernel
theorem dH_forget_25 : decode (xb yyH_forget) 25 = .ok (.goto 25, 3) := by decide +kernel
theorem dH_forget_28 : decode (xb yyH_forget) 28 = .ok (.iload_n 1, 1) := by decide +kernel
theorem dH_forget_29 : decode (xb yyH_forget) 29 = .ok (.iconst 1, 1) := by decide +kernel
theorem dH_forget_30 : decode (xb yyH_forget) 30 = .ok (.if_icmp .ne 13, 3) := by decide +kernel
theorem dH_forget_33 : decode (xb yyH_forget) 33 = .ok (.aload_n 0, 1) := by decide +kernel
theorem dH_forget_34 : decode (xb yyH_forget) 34 = .ok (.getfield 10, 3) := by decide +kernel
theorem dH_forget_37 : decode (xb yyH_forget) 37 = .ok (.getfield 243, 3) := by decide +kernel
theorem dH_forget_40 : decode (xb yyH_forget) 40 = .ok (.goto 10, 3) := by decide +kernel
theorem dH_forget_43 : decode (xb yyH_forget) 43 = .ok (.aload_n 0, 1) := by decide +kernel
theorem dH_forget_44 : decode (xb yyH_forget) 44 = .ok (.getfield 10, 3) := by decide +kernel
theorem dH_forget_47 : decode (xb yyH_forget) 47 = .ok (.getfield 246, 3) := by decide +kernel
theorem dH_forget_50 : decode (xb yyH_forget) 50 = .ok (.astore_n 2, 1) := by decide +kernel
theorem dH_forget_51 : decode (xb yyH_forget) 51 = .ok (.aload_n 2, 1) := by decide +kernel
theorem dH_forget_52 : decode (xb yyH_forget) 52 = .ok (.invokevirtual 113, 3) := by decide +kernel
theorem dH_forget_55 : decode (xb yyH_forget) 55 = .ok (.istore_n 3, 1) := by decide +kernel
theorem dH_forget_56 : decode (xb yyH_forget) 56 = .ok (.aload_n 2, 1) := by decide +kernel
theorem dH_forget_57 : decode (xb yyH_forget) 57 = .ok (.invokevirtual 98, 3) := by decide +kernel
theorem dH_forget_60 : decode (xb yyH_forget) 60 = .ok (.iload_n 3, 1) := by decide +kernel
theorem dH_forget_61 : decode (xb yyH_forget) 61 = .ok (.ireturn, 1) := by decide +kernel
def fH_forget  (v1 : Int32) (m : xM) : Option (Int32 × xM) := (fH_within v1 (0 : Int32) (2 : Int32)).bind fun r3 => (if r3 = 0 then (fH_bad m).bind fun r10 => some (r10.1, r10.2) else (if v1 = 0 then (fT_many 4 m).bind fun r52 => (fT_empty 4 m).bind fun r57 => some (r52, r57) else (if v1 = (1 : Int32) then (fT_many 5 m).bind fun r52 => (fT_empty 5 m).bind fun r57 => some (r52, r57) else (fT_many 6 m).bind fun r52 => (fT_empty 6 m).bind fun r57 => some (r52, r57))))
set_option maxRecDepth 100000 in
set_option maxHeartbeats 4000000 in
theorem kH_forget (G : xG)   (z : xM) (m : xM) (v1 : Int32) : ∀ a, fH_forget  v1 m = some a → xCt G yyH_forget [.ref (xa G 81), .int v1] (m, z) (some (.int a.1)) (a.2, z) := by
  refine xR_ct (em := (emic z)) rfl (Nat.le_of_ble_eq_true rfl) ?_
  show xR G yyH_forget _ 0 [(0, .ref (xa G 81)), (1, .int v1)] [] _ _
  unfold fH_forget
  refine xR_iln 0 1 dH_forget_0 rfl rfl ?_
  refine xR_ic 1 (0 : Int32) dH_forget_1 (by decide) ?_
  refine xR_ic 2 (2 : Int32) dH_forget_2 (by decide) ?_
  refine xR_callSi 3 cs_H_within ml_RX8_78 ⟨Nat.le_of_ble_eq_true rfl, Nat.le_of_ble_eq_true rfl⟩ [.int v1, .int (0 : Int32), .int (2 : Int32)] rfl rfl (Nat.le_of_ble_eq_true rfl) dH_forget_3 (kH_within G (m, z) v1 (0 : Int32) (2 : Int32)) (fun r3 => ?_)
  refine xR_ifne 6 14 dH_forget_6 (by decide) ?_ ?_
  · refine xR_iln 14 1 dH_forget_14 rfl rfl ?_
    refine xR_ifne 15 28 dH_forget_15 (by decide) ?_ ?_
    · refine xR_iln 28 1 dH_forget_28 rfl rfl ?_
      refine xR_ic 29 (1 : Int32) dH_forget_29 (by decide) ?_
      refine xR_icne 30 43 dH_forget_30 (by decide) ?_ ?_
      · refine xR_aln 43 0 dH_forget_43 rfl rfl ?_
        refine xR_getf 44 xcf6 0 81 (by decide) (by decide) rfl (v := .ref (xa G 77)) rfl fl_RX8_10 dH_forget_44 ?_
        refine xR_getf 47 xcf5 6 77 (by decide) (by decide) (xC_twn (t := 0) (by decide)) (v := .ref (xa G 42)) rfl fl_RX8_246 dH_forget_47 ?_
        refine xR_asn 50 ([(2, .ref (xa G 42)), (0, .ref (xa G 81)), (1, .int v1)]) dH_forget_50 rfl (by decide) rfl ?_
        refine xR_aln 51 0 dH_forget_51 rfl rfl ?_
        refine xR_callVi 52 cv_T_many ml_RX8_113 ⟨Nat.le_of_ble_eq_true rfl, Nat.le_of_ble_eq_true rfl⟩ xcf3 rfl 42 (by decide) (xC_tab (t := 6) (by decide)) [] rfl rfl (Nat.le_of_ble_eq_true rfl) dH_forget_52 (kT_many G 6 (by decide) z m) (fun r52 => ?_)
        refine xR_isn 55 ([(3, .int r52), (2, .ref (xa G 42)), (0, .ref (xa G 81)), (1, .int v1)]) dH_forget_55 rfl (by decide) rfl ?_
        refine xR_aln 56 1 dH_forget_56 rfl rfl ?_
        refine xR_callVvc 57 cv_T_empty ml_RX8_98 ⟨Nat.le_of_ble_eq_true rfl, Nat.le_of_ble_eq_true rfl⟩ xcf3 rfl 42 (by decide) (xC_tab (t := 6) (by decide)) [] rfl rfl (Nat.le_of_ble_eq_true rfl) dH_forget_57 (kT_empty G 6 (by decide) z m) (fun r57 => ?_)
        refine xR_iln 60 0 dH_forget_60 rfl rfl ?_
        exact xR_iret 61 rfl rfl dH_forget_61
      · refine xR_aln 33 0 dH_forget_33 rfl rfl ?_
        refine xR_getf 34 xcf6 0 81 (by decide) (by decide) rfl (v := .ref (xa G 77)) rfl fl_RX8_10 dH_forget_34 ?_
        refine xR_getf 37 xcf5 5 77 (by decide) (by decide) (xC_twn (t := 0) (by decide)) (v := .ref (xa G 41)) rfl fl_RX8_243 dH_forget_37 ?_
        refine xR_goto 40 50 dH_forget_40 (by decide) ?_
        refine xR_asn 50 ([(2, .ref (xa G 41)), (0, .ref (xa G 81)), (1, .int v1)]) dH_forget_50 rfl (by decide) rfl ?_
        refine xR_aln 51 0 dH_forget_51 rfl rfl ?_
        refine xR_callVi 52 cv_T_many ml_RX8_113 ⟨Nat.le_of_ble_eq_true rfl, Nat.le_of_ble_eq_true rfl⟩ xcf3 rfl 41 (by decide) (xC_tab (t := 5) (by decide)) [] rfl rfl (Nat.le_of_ble_eq_true rfl) dH_forget_52 (kT_many G 5 (by decide) z m) (fun r52 => ?_)
        refine xR_isn 55 ([(3, .int r52), (2, .ref (xa G 41)), (0, .ref (xa G 81)), (1, .int v1)]) dH_forget_55 rfl (by decide) rfl ?_
        refine xR_aln 56 1 dH_forget_56 rfl rfl ?_
        refine xR_callVvc 57 cv_T_empty ml_RX8_98 ⟨Nat.le_of_ble_eq_true rfl, Nat.le_of_ble_eq_true rfl⟩ xcf3 rfl 41 (by decide) (xC_tab (t := 5) (by decide)) [] rfl rfl (Nat.le_of_ble_eq_true rfl) dH_forget_57 (kT_empty G 5 (by decide) z m) (fun r57 => ?_)
        refine xR_iln 60 0 dH_forget_60 rfl rfl ?_
        exact xR_iret 61 rfl rfl dH_forget_61
    · refine xR_aln 18 0 dH_forget_18 rfl rfl ?_
      refine xR_getf 19 xcf6 0 81 (by decide) (by decide) rfl (v := .ref (xa G 77)) rfl fl_RX8_10 dH_forget_19 ?_
      refine xR_getf 22 xcf5 4 77 (by decide) (by decide) (xC_twn (t := 0) (by decide)) (v := .ref (xa G 40)) rfl fl_RX8_234 dH_forget_22 ?_
      refine xR_goto 25 50 dH_forget_25 (by decide) ?_
      refine xR_asn 50 ([(2, .ref (xa G 40)), (0, .ref (xa G 81)), (1, .int v1)]) dH_forget_50 rfl (by decide) rfl ?_
      refine xR_aln 51 0 dH_forget_51 rfl rfl ?_
      refine xR_callVi 52 cv_T_many ml_RX8_113 ⟨Nat.le_of_ble_eq_true rfl, Nat.le_of_ble_eq_true rfl⟩ xcf3 rfl 40 (by decide) (xC_tab (t := 4) (by decide)) [] rfl rfl (Nat.le_of_ble_eq_true rfl) dH_forget_52 (kT_many G 4 (by decide) z m) (fun r52 => ?_)
      refine xR_isn 55 ([(3, .int r52), (2, .ref (xa G 40)), (0, .ref (xa G 81)), (1, .int v1)]) dH_forget_55 rfl (by decide) rfl ?_
      refine xR_aln 56 1 dH_forget_56 rfl rfl ?_
      refine xR_callVvc 57 cv_T_empty ml_RX8_98 ⟨Nat.le_of_ble_eq_true rfl, Nat.le_of_ble_eq_true rfl⟩ xcf3 rfl 40 (by decide) (xC_tab (t := 4) (by decide)) [] rfl rfl (Nat.le_of_ble_eq_true rfl) dH_forget_57 (kT_empty G 4 (by decide) z m) (fun r57 => ?_)
      refine xR_iln 60 0 dH_forget_60 rfl rfl ?_
      exact xR_iret 61 rfl rfl dH_forget_61
  · refine xR_aln 9 0 dH_forget_9 rfl rfl ?_
    refine xR_callVic 10 cv_H_bad ml_RX8_82 ⟨Nat.le_of_ble_eq_true rfl, Nat.le_of_ble_eq_true rfl⟩ xcf6 rfl 81 (by decide) rfl [] rfl rfl (Nat.le_of_ble_eq_true rfl) dH_forget_10 (kH_bad G z m) (fun r10 => ?_)
    exact xR_iret 13 rfl rfl dH_forget_13
theorem dH_is_0 : decode (xb yyH_is) 0 = .ok (.aload_n 0, 1) := by decide +kernel
theorem dH_is_1 : decode (xb yyH_is) 1 = .ok (.getfield 10, 3) := by decide +kernel
theorem dH_is_4 : decode (xb yyH_is) 4 = .ok (.getfield 68, 3) := by decide +kernel
theorem dH_is_7 : decode (xb yyH_is) 7 = .ok (.iload_n 1, 1) := by decide +kernel
theorem dH_is_8 : decode (xb yyH_is) 8 = .ok (.invokevirtual 118, 3) := by decide +kernel
theorem dH_is_11 : decode (xb yyH_is) 11 = .ok (.ifCond .eq 14, 3) := by decide +kernel
theorem dH_is_14 : decode (xb yyH_is) 14 = .ok (.aload_n 0, 1) := by decide +kernel
theorem dH_is_15 : decode (xb yyH_is) 15 = .ok (.getfield 10, 3) := by decide +kernel
theorem dH_is_18 : decode (xb yyH_is) 18 = .ok (.iload_n 1, 1) := by decide +kernel
theorem dH_is_19 : decode (xb yyH_is) 19 = .ok (.invokevirtual 249, 3) := by decide +kernel
theorem dH_is_22 : decode (xb yyH_is) 22 = .ok (.goto 7, 3) := by decide +kernel
theorem dH_is_25 : decode (xb yyH_is) 25 = .ok (.aload_n 0, 1) := by decide +kernel
theorem dH_is_26 : decode (xb yyH_is) 26 = .ok (.invokevirtual 82, 3) := by decide +kernel
theorem dH_is_29 : decode (xb yyH_is) 29 = .ok (.ireturn, 1) := by decide +kernel
def fH_is  (v1 : Int32) (m : xM) : Option (Int32 × xM) := (fB_has 0 m v1).bind fun r8 => (if r8 = 0 then (fH_bad m).bind fun r26 => some (r26.1, r26.2) else (fW_notedKinds 0 m v1).bind fun r19 => some (r19, m))
set_option maxRecDepth 100000 in
set_option maxHeartbeats 4000000 in
theorem kH_is (G : xG)   (z : xM) (m : xM) (v1 : Int32) : ∀ a, fH_is  v1 m = some a → xCt G yyH_is [.ref (xa G 81), .int v1] (m, z) (some (.int a.1)) (a.2, z) := by
  refine xR_ct (em := (emic z)) rfl (Nat.le_of_ble_eq_true rfl) ?_
  show xR G yyH_is _ 0 [(0, .ref (xa G 81)), (1, .int v1)] [] _ _
  unfold fH_is
  refine xR_aln 0 0 dH_is_0 rfl rfl ?_
  refine xR_getf 1 xcf6 0 81 (by decide) (by decide) rfl (v := .ref (xa G 77)) rfl fl_RX8_10 dH_is_1 ?_
  refine xR_getf 4 xcf5 0 77 (by decide) (by decide) (xC_twn (t := 0) (by decide)) (v := .ref (xa G 72)) rfl fl_RX8_68 dH_is_4 ?_
  refine xR_iln 7 1 dH_is_7 rfl rfl ?_
  refine xR_callVi 8 cv_B_has ml_RX8_118 ⟨Nat.le_of_ble_eq_true rfl, Nat.le_of_ble_eq_true rfl⟩ xcf0 rfl 72 (by decide) (xC_brd (b := 0) (by decide)) [.int v1] rfl rfl (Nat.le_of_ble_eq_true rfl) dH_is_8 (kB_has G 0 (by decide) z m v1) (fun r8 => ?_)
  refine xR_ifeq 11 25 dH_is_11 (by decide) ?_ ?_
  · refine xR_aln 25 0 dH_is_25 rfl rfl ?_
    refine xR_callVic 26 cv_H_bad ml_RX8_82 ⟨Nat.le_of_ble_eq_true rfl, Nat.le_of_ble_eq_true rfl⟩ xcf6 rfl 81 (by decide) rfl [] rfl rfl (Nat.le_of_ble_eq_true rfl) dH_is_26 (kH_bad G z m) (fun r26 => ?_)
    exact xR_iret 29 rfl rfl dH_is_29
  · refine xR_aln 14 0 dH_is_14 rfl rfl ?_
    refine xR_getf 15 xcf6 0 81 (by decide) (by decide) rfl (v := .ref (xa G 77)) rfl fl_RX8_10 dH_is_15 ?_
    refine xR_iln 18 1 dH_is_18 rfl rfl ?_
    refine xR_callVi 19 cv_W_notedKinds ml_RX8_249 ⟨Nat.le_of_ble_eq_true rfl, Nat.le_of_ble_eq_true rfl⟩ xcf5 rfl 77 (by decide) (xC_twn (t := 0) (by decide)) [.int v1] rfl rfl (Nat.le_of_ble_eq_true rfl) dH_is_19 (kW_notedKinds G 0 (by decide) z m v1) (fun r19 => ?_)
    refine xR_goto 22 29 dH_is_22 (by decide) ?_
    exact xR_iret 29 rfl rfl dH_is_29
theorem dH_look_0 : decode (xb yyH_look) 0 = .ok (.aload_n 0, 1) := by decide +kernel
theorem dH_look_1 : decode (xb yyH_look) 1 = .ok (.getfield 10, 3) := by decide +kernel
theorem dH_look_4 : decode (xb yyH_look) 4 = .ok (.getfield 68, 3) := by decide +kernel
theorem dH_look_7 : decode (xb yyH_look) 7 = .ok (.iload_n 1, 1) := by decide +kernel
theorem dH_look_8 : decode (xb yyH_look) 8 = .ok (.invokevirtual 118, 3) := by decide +kernel
theorem dH_look_11 : decode (xb yyH_look) 11 = .ok (.ifCond .ne 8, 3) := by decide +kernel
theorem dH_look_14 : decode (xb yyH_look) 14 = .ok (.aload_n 0, 1) := by decide +kernel
theorem dH_look_15 : decode (xb yyH_look) 15 = .ok (.invokevirtual 82, 3) := by decide +kernel
theorem dH_look_18 : decode (xb yyH_look) 18 = .ok (.ireturn, 1) := by decide +kernel
theorem dH_look_19 : decode (xb yyH_look) 19 = .ok (.aload_n 0, 1) := by decide +kernel
theorem dH_look_20 : decode (xb yyH_look) 20 = .ok (.getfield 10, 3) := by decide +kernel
theorem dH_look_23 : decode (xb yyH_look) 23 = .ok (.iload_n 1, 1) := by decide +kernel
theorem dH_look_24 : decode (xb yyH_look) 24 = .ok (.invokevirtual 249, 3) := by decide +kernel
theorem dH_look_27 : decode (xb yyH_look) 27 = .ok (.istore_n 2, 1) := by decide +kernel
theorem dH_look_28 : decode (xb yyH_look) 28 = .ok (.aload_n 0, 1) := by decide +kernel
theorem dH_look_29 : decode (xb yyH_look) 29 = .ok (.getfield 10, 3) := by decide +kernel
theorem dH_look_32 : decode (xb yyH_look) 32 = .ok (.getfield 68, 3) := by decide +kernel
theorem dH_look_35 : decode (xb yyH_look) 35 = .ok (.iload_n 1, 1) := by decide +kernel
theorem dH_look_36 : decode (xb yyH_look) 36 = .ok (.iconst 1, 1) := by decide +kernel
theorem dH_look_37 : decode (xb yyH_look) 37 = .ok (.invokevirtual 121, 3) := by decide +kernel
theorem dH_look_40 : decode (xb yyH_look) 40 = .ok (.istore_n 3, 1) := by decide +kernel
theorem dH_look_41 : decode (xb yyH_look) 41 = .ok (.iconst (-1), 1) := by decide +kernel
theorem dH_look_42 : decode (xb yyH_look) 42 = .ok (.istore 4, 2) := by decide +kernel
theorem dH_look_44 : decode (xb yyH_look) 44 = .ok (.bipush 7, 2) := by decide +kernel
theorem dH_look_46 : decode (xb yyH_look) 46 = .ok (.istore 5, 2) := by decide +kernel
theorem dH_look_48 : decode (xb yyH_look) 48 = .ok (.iconst 0, 1) := by decide +kernel
theorem dH_look_49 : decode (xb yyH_look) 49 = .ok (.istore 6, 2) := by decide +kernel
theorem dH_look_51 : decode (xb yyH_look) 51 = .ok (.iload 6, 2) := by decide +kernel
theorem dH_look_53 : decode (xb yyH_look) 53 = .ok (.bipush 40, 2) := by decide +kernel
theorem dH_look_55 : decode (xb yyH_look) 55 = .ok (.if_icmp .ge 77, 3) := by decide +kernel
theorem dH_look_58 : decode (xb yyH_look) 58 = .ok (.iload_n 2, 1) := by decide +kernel
theorem dH_look_59 : decode (xb yyH_look) 59 = .ok (.ifCond .eq 73, 3) := by decide +kernel
theorem dH_look_62 : decode (xb yyH_look) 62 = .ok (.iconst 0, 1) := by decide +kernel
theorem dH_look_63 : decode (xb yyH_look) 63 = .ok (.istore 7, 2) := by decide +kernel
theorem dH_look_65 : decode (xb yyH_look) 65 = .ok (.iload 7, 2) := by decide +kernel
theorem dH_look_67 : decode (xb yyH_look) 67 = .ok (.bipush 6, 2) := by decide +kernel
theorem dH_look_69 : decode (xb yyH_look) 69 = .ok (.if_icmp .ge 35, 3) := by decide +kernel
theorem dH_look_72 : decode (xb yyH_look) 72 = .ok (.aload_n 0, 1) := by decide +kernel
theorem dH_look_73 : decode (xb yyH_look) 73 = .ok (.getfield 58, 3) := by decide +kernel
theorem dH_look_76 : decode (xb yyH_look) 76 = .ok (.iload 7, 2) := by decide +kernel
theorem dH_look_78 : decode (xb yyH_look) 78 = .ok (.iconst 0, 1) := by decide +kernel
theorem dH_look_79 : decode (xb yyH_look) 79 = .ok (.iload 7, 2) := by decide +kernel
theorem dH_look_81 : decode (xb yyH_look) 81 = .ok (.iload 6, 2) := by decide +kernel
theorem dH_look_83 : decode (xb yyH_look) 83 = .ok (.bipush 10, 2) := by decide +kernel
theorem dH_look_85 : decode (xb yyH_look) 85 = .ok (.idiv, 1) := by decide +kernel
theorem dH_look_86 : decode (xb yyH_look) 86 = .ok (.iload_n 3, 1) := by decide +kernel
theorem dH_look_87 : decode (xb yyH_look) 87 = .ok (.iload 6, 2) := by decide +kernel
theorem dH_look_89 : decode (xb yyH_look) 89 = .ok (.bipush 10, 2) := by decide +kernel
theorem dH_look_91 : decode (xb yyH_look) 91 = .ok (.irem, 1) := by decide +kernel
theorem dH_look_92 : decode (xb yyH_look) 92 = .ok (.invokestatic 252, 3) := by decide +kernel
theorem dH_look_95 : decode (xb yyH_look) 95 = .ok (.invokevirtual 91, 3) := by decide +kernel
theorem dH_look_98 : decode (xb yyH_look) 98 = .ok (.iinc 7 1, 3) := by decide +kernel
theorem dH_look_101 : decode (xb yyH_look) 101 = .ok (.goto (-36), 3) := by decide +kernel
theorem dH_look_104 : decode (xb yyH_look) 104 = .ok (.aload_n 0, 1) := by decide +kernel
theorem dH_look_105 : decode (xb yyH_look) 105 = .ok (.iload_n 2, 1) := by decide +kernel
theorem dH_look_106 : decode (xb yyH_look) 106 = .ok (.invokevirtual 240, 3) := by decide +kernel
theorem dH_look_109 : decode (xb yyH_look) 109 = .ok (.istore 7, 2) := by decide +kernel
theorem dH_look_111 : decode (xb yyH_look) 111 = .ok (.iload 7, 2) := by decide +kernel
theorem dH_look_113 : decode (xb yyH_look) 113 = .ok (.iload 5, 2) := by decide +kernel
theorem dH_look_115 : decode (xb yyH_look) 115 = .ok (.if_icmp .ge 11, 3) := by decide +kernel
theorem dH_look_118 : decode (xb yyH_look) 118 = .ok (.iload 7, 2) := by decide +kernel
theorem dH_look_120 : decode (xb yyH_look) 120 = .ok (.istore 5, 2) := by decide +kernel
theorem dH_look_122 : decode (xb yyH_look) 122 = .ok (.iload 6, 2) := by decide +kernel
theorem dH_look_124 : decode (xb yyH_look) 124 = .ok (.istore 4, 2) := by decide +kernel
theorem dH_look_126 : decode (xb yyH_look) 126 = .ok (.iinc 6 1, 3) := by decide +kernel
theorem dH_look_129 : decode (xb yyH_look) 129 = .ok (.goto (-78), 3) := by decide +kernel
theorem dH_look_132 : decode (xb yyH_look) 132 = .ok (.iload 4, 2) := by decide +kernel
theorem dH_look_134 : decode (xb yyH_look) 134 = .ok (.ireturn, 1) := by decide +kernel
def fH_look_b126 (k51 : Int32 → Int32 → Int32 → Int32 → Int32 → xM → Option (Int32 × xM)) (v2 : Int32) (v3 : Int32) (v4 : Int32) (v5 : Int32) (v6 : Int32) (m : xM) : Option (Int32 × xM) := k51 v2 v3 v4 v5 (v6 + 1) m
def fH_look_l65 (k51 : Int32 → Int32 → Int32 → Int32 → Int32 → xM → Option (Int32 × xM)) : Nat → Int32 → Int32 → Int32 → Int32 → Int32 → Int32 → xM → Option (Int32 × xM)
  | 0, _, _, _, _, _, _, _ => none
  | n + 1, v2, v3, v4, v5, v6, v7, m => (if (6 : Int32) ≤ v7 then (fH_mostAlike m v2).bind fun r106 => (if v5 ≤ r106 then fH_look_b126 k51 v2 v3 v4 v5 v6 m else fH_look_b126 k51 v2 v3 v6 r106 v6 m) else (fD_soundBy v7 (v6 / (10 : Int32)) v3 (v6 - v6 / (10 : Int32) * (10 : Int32))).bind fun r92 => (fT_put 34 v7 (0 : Int32) r92 m).bind fun r95 => fH_look_l65 k51 n v2 v3 v4 v5 v6 (v7 + 1) r95)
def fH_look_l51  : Nat → Int32 → Int32 → Int32 → Int32 → Int32 → xM → Option (Int32 × xM)
  | 0, _, _, _, _, _, _ => none
  | n + 1, v2, v3, v4, v5, v6, m => (if (40 : Int32) ≤ v6 then some (v4, m) else (if v2 = 0 then some (v4, m) else fH_look_l65 (fH_look_l51 n) xfu v2 v3 v4 v5 v6 (0 : Int32) m))
def fH_look  (v1 : Int32) (m : xM) : Option (Int32 × xM) := (fB_has 0 m v1).bind fun r8 => (if r8 = 0 then (fH_bad m).bind fun r15 => some (r15.1, r15.2) else (fW_notedKinds 0 m v1).bind fun r24 => (fB_cell 0 m v1 (1 : Int32)).bind fun r37 => fH_look_l51 xfu r24 r37 (-1 : Int32) (7 : Int32) (0 : Int32) m)
set_option maxRecDepth 100000 in
set_option maxHeartbeats 4000000 in
theorem kH_look_b126 (G : xG)   (z : xM)  (k51 : Int32 → Int32 → Int32 → Int32 → Int32 → xM → Option (Int32 × xM)) (hk51 : ∀ (v2 : Int32) (v3 : Int32) (v4 : Int32) (v5 : Int32) (v6 : Int32) (m : xM), xR G yyH_look (emic z) 51 [(0, .ref (xa G 81)), (2, .int v2), (3, .int v3), (4, .int v4), (5, .int v5), (6, .int v6)] [] (m, z) (k51 v2 v3 v4 v5 v6 m)) (v2 : Int32) (v3 : Int32) (v4 : Int32) (v5 : Int32) (v6 : Int32) (m : xM) : xR G yyH_look (emic z) 126 [(0, .ref (xa G 81)), (2, .int v2), (3, .int v3), (4, .int v4), (5, .int v5), (6, .int v6)] [] (m, z) (fH_look_b126 k51 v2 v3 v4 v5 v6 m) := by
  unfold fH_look_b126
  refine xR_iinc 126 5 (v6 + 1) ([(6, .int (v6 + 1)), (0, .ref (xa G 81)), (2, .int v2), (3, .int v3), (4, .int v4), (5, .int v5)]) dH_look_126 rfl rfl (by decide) rfl ?_
  refine xR_goto 129 51 dH_look_129 (by decide) ?_
  exact xR_sub [1, 2, 3, 4, 5, 0] rfl (hk51 v2 v3 v4 v5 (v6 + 1) m)
set_option maxRecDepth 100000 in
set_option maxHeartbeats 4000000 in
theorem kH_look_l65 (G : xG)   (z : xM)  (k51 : Int32 → Int32 → Int32 → Int32 → Int32 → xM → Option (Int32 × xM)) (hk51 : ∀ (v2 : Int32) (v3 : Int32) (v4 : Int32) (v5 : Int32) (v6 : Int32) (m : xM), xR G yyH_look (emic z) 51 [(0, .ref (xa G 81)), (2, .int v2), (3, .int v3), (4, .int v4), (5, .int v5), (6, .int v6)] [] (m, z) (k51 v2 v3 v4 v5 v6 m)) : ∀ (n : Nat) (v2 : Int32) (v3 : Int32) (v4 : Int32) (v5 : Int32) (v6 : Int32) (v7 : Int32) (m : xM), xR G yyH_look (emic z) 65 [(0, .ref (xa G 81)), (2, .int v2), (3, .int v3), (4, .int v4), (5, .int v5), (6, .int v6), (7, .int v7)] [] (m, z) (fH_look_l65 k51 n v2 v3 v4 v5 v6 v7 m) := by
  intro n
  induction n with
  | zero =>
    intro v2 v3 v4 v5 v6 v7 m
    rw [fH_look_l65]
    exact xR_none
  | succ n ih =>
    intro v2 v3 v4 v5 v6 v7 m
    rw [fH_look_l65]
    refine xR_il 65 6 dH_look_65 rfl ?_
    refine xR_bp 67 (6 : Int32) dH_look_67 (by decide) ?_
    refine xR_icge 69 104 dH_look_69 (by decide) ?_ ?_
    · refine xR_aln 104 0 dH_look_104 rfl rfl ?_
      refine xR_iln 105 1 dH_look_105 rfl rfl ?_
      refine xR_callVi 106 cv_H_mostAlike ml_RX8_240 ⟨Nat.le_of_ble_eq_true rfl, Nat.le_of_ble_eq_true rfl⟩ xcf6 rfl 81 (by decide) rfl [.int v2] rfl rfl (Nat.le_of_ble_eq_true rfl) dH_look_106 (kH_mostAlike G z m v2) (fun r106 => ?_)
      refine xR_is 109 ([(7, .int r106), (0, .ref (xa G 81)), (2, .int v2), (3, .int v3), (4, .int v4), (5, .int v5), (6, .int v6)]) dH_look_109 (by decide) rfl ?_
      refine xR_il 111 0 dH_look_111 rfl ?_
      refine xR_il 113 5 dH_look_113 rfl ?_
      refine xR_icge 115 126 dH_look_115 (by decide) ?_ ?_
      · exact xR_sub [1, 2, 3, 4, 5, 6] rfl (kH_look_b126 G z k51 hk51 v2 v3 v4 v5 v6 m)
      · refine xR_il 118 0 dH_look_118 rfl ?_
        refine xR_is 120 ([(5, .int r106), (7, .int r106), (0, .ref (xa G 81)), (2, .int v2), (3, .int v3), (4, .int v4), (6, .int v6)]) dH_look_120 (by decide) rfl ?_
        refine xR_il 122 6 dH_look_122 rfl ?_
        refine xR_is 124 ([(4, .int v6), (5, .int r106), (7, .int r106), (0, .ref (xa G 81)), (2, .int v2), (3, .int v3), (6, .int v6)]) dH_look_124 (by decide) rfl ?_
        exact xR_sub [3, 4, 5, 0, 1, 6] rfl (kH_look_b126 G z k51 hk51 v2 v3 v6 r106 v6 m)
    · refine xR_aln 72 0 dH_look_72 rfl rfl ?_
      refine xR_getf 73 xcf6 7 81 (by decide) (by decide) rfl (v := .ref (xa G 70)) rfl fl_RX8_58 dH_look_73 ?_
      refine xR_il 76 6 dH_look_76 rfl ?_
      refine xR_ic 78 (0 : Int32) dH_look_78 (by decide) ?_
      refine xR_il 79 6 dH_look_79 rfl ?_
      refine xR_il 81 5 dH_look_81 rfl ?_
      refine xR_bp 83 (10 : Int32) dH_look_83 (by decide) ?_
      refine xR_idiv 85 dH_look_85 (by decide) ?_
      refine xR_iln 86 2 dH_look_86 rfl rfl ?_
      refine xR_il 87 5 dH_look_87 rfl ?_
      refine xR_bp 89 (10 : Int32) dH_look_89 (by decide) ?_
      refine xR_irem 91 dH_look_91 (by decide) ?_
      refine xR_callSi 92 cs_D_soundBy ml_RX8_252 ⟨Nat.le_of_ble_eq_true rfl, Nat.le_of_ble_eq_true rfl⟩ [.int v7, .int (v6 / (10 : Int32)), .int v3, .int (v6 - v6 / (10 : Int32) * (10 : Int32))] rfl rfl (Nat.le_of_ble_eq_true rfl) dH_look_92 (kD_soundBy G (m, z) v7 (v6 / (10 : Int32)) v3 (v6 - v6 / (10 : Int32) * (10 : Int32))) (fun r92 => ?_)
      refine xR_callVvc 95 cv_T_put ml_RX8_91 ⟨Nat.le_of_ble_eq_true rfl, Nat.le_of_ble_eq_true rfl⟩ xcf3 rfl 70 (by decide) (xC_tab (t := 34) (by decide)) [.int v7, .int (0 : Int32), .int r92] rfl rfl (Nat.le_of_ble_eq_true rfl) dH_look_95 (kT_put G 34 (by decide) z m v7 (0 : Int32) r92) (fun r95 => ?_)
      refine xR_iinc 98 6 (v7 + 1) ([(7, .int (v7 + 1)), (0, .ref (xa G 81)), (2, .int v2), (3, .int v3), (4, .int v4), (5, .int v5), (6, .int v6)]) dH_look_98 rfl rfl (by decide) rfl ?_
      refine xR_goto 101 65 dH_look_101 (by decide) ?_
      exact xR_sub [1, 2, 3, 4, 5, 6, 0] rfl (ih v2 v3 v4 v5 v6 (v7 + 1) r95)
set_option maxRecDepth 100000 in
set_option maxHeartbeats 4000000 in
theorem kH_look_l51 (G : xG)   (z : xM)    : ∀ (n : Nat) (v2 : Int32) (v3 : Int32) (v4 : Int32) (v5 : Int32) (v6 : Int32) (m : xM), xR G yyH_look (emic z) 51 [(0, .ref (xa G 81)), (2, .int v2), (3, .int v3), (4, .int v4), (5, .int v5), (6, .int v6)] [] (m, z) (fH_look_l51  n v2 v3 v4 v5 v6 m) := by
  intro n
  induction n with
  | zero =>
    intro v2 v3 v4 v5 v6 m
    rw [fH_look_l51]
    exact xR_none
  | succ n ih =>
    intro v2 v3 v4 v5 v6 m
    rw [fH_look_l51]
    refine xR_il 51 5 dH_look_51 rfl ?_
    refine xR_bp 53 (40 : Int32) dH_look_53 (by decide) ?_
    refine xR_icge 55 132 dH_look_55 (by decide) ?_ ?_
    · refine xR_il 132 3 dH_look_132 rfl ?_
      exact xR_iret 134 rfl rfl dH_look_134
    · refine xR_iln 58 1 dH_look_58 rfl rfl ?_
      refine xR_ifeq 59 132 dH_look_59 (by decide) ?_ ?_
      · refine xR_il 132 3 dH_look_132 rfl ?_
        exact xR_iret 134 rfl rfl dH_look_134
      · refine xR_ic 62 (0 : Int32) dH_look_62 (by decide) ?_
        refine xR_is 63 ([(7, .int (0 : Int32)), (0, .ref (xa G 81)), (2, .int v2), (3, .int v3), (4, .int v4), (5, .int v5), (6, .int v6)]) dH_look_63 (by decide) rfl ?_
        exact xR_sub [1, 2, 3, 4, 5, 6, 0] rfl (kH_look_l65 G z (fH_look_l51 n) ih xfu v2 v3 v4 v5 v6 (0 : Int32) m)
set_option maxRecDepth 100000 in
set_option maxHeartbeats 4000000 in
theorem kH_look (G : xG)   (z : xM) (m : xM) (v1 : Int32) : ∀ a, fH_look  v1 m = some a → xCt G yyH_look [.ref (xa G 81), .int v1] (m, z) (some (.int a.1)) (a.2, z) := by
  refine xR_ct (em := (emic z)) rfl (Nat.le_of_ble_eq_true rfl) ?_
  show xR G yyH_look _ 0 [(0, .ref (xa G 81)), (1, .int v1)] [] _ _
  unfold fH_look
  refine xR_aln 0 0 dH_look_0 rfl rfl ?_
  refine xR_getf 1 xcf6 0 81 (by decide) (by decide) rfl (v := .ref (xa G 77)) rfl fl_RX8_10 dH_look_1 ?_
  refine xR_getf 4 xcf5 0 77 (by decide) (by decide) (xC_twn (t := 0) (by decide)) (v := .ref (xa G 72)) rfl fl_RX8_68 dH_look_4 ?_
  refine xR_iln 7 1 dH_look_7 rfl rfl ?_
  refine xR_callVi 8 cv_B_has ml_RX8_118 ⟨Nat.le_of_ble_eq_true rfl, Nat.le_of_ble_eq_true rfl⟩ xcf0 rfl 72 (by decide) (xC_brd (b := 0) (by decide)) [.int v1] rfl rfl (Nat.le_of_ble_eq_true rfl) dH_look_8 (kB_has G 0 (by decide) z m v1) (fun r8 => ?_)
  refine xR_ifne 11 19 dH_look_11 (by decide) ?_ ?_
  · refine xR_aln 19 0 dH_look_19 rfl rfl ?_
    refine xR_getf 20 xcf6 0 81 (by decide) (by decide) rfl (v := .ref (xa G 77)) rfl fl_RX8_10 dH_look_20 ?_
    refine xR_iln 23 1 dH_look_23 rfl rfl ?_
    refine xR_callVi 24 cv_W_notedKinds ml_RX8_249 ⟨Nat.le_of_ble_eq_true rfl, Nat.le_of_ble_eq_true rfl⟩ xcf5 rfl 77 (by decide) (xC_twn (t := 0) (by decide)) [.int v1] rfl rfl (Nat.le_of_ble_eq_true rfl) dH_look_24 (kW_notedKinds G 0 (by decide) z m v1) (fun r24 => ?_)
    refine xR_isn 27 ([(2, .int r24), (0, .ref (xa G 81)), (1, .int v1)]) dH_look_27 rfl (by decide) rfl ?_
    refine xR_aln 28 1 dH_look_28 rfl rfl ?_
    refine xR_getf 29 xcf6 0 81 (by decide) (by decide) rfl (v := .ref (xa G 77)) rfl fl_RX8_10 dH_look_29 ?_
    refine xR_getf 32 xcf5 0 77 (by decide) (by decide) (xC_twn (t := 0) (by decide)) (v := .ref (xa G 72)) rfl fl_RX8_68 dH_look_32 ?_
    refine xR_iln 35 2 dH_look_35 rfl rfl ?_
    refine xR_ic 36 (1 : Int32) dH_look_36 (by decide) ?_
    refine xR_callVi 37 cv_B_cell ml_RX8_121 ⟨Nat.le_of_ble_eq_true rfl, Nat.le_of_ble_eq_true rfl⟩ xcf0 rfl 72 (by decide) (xC_brd (b := 0) (by decide)) [.int v1, .int (1 : Int32)] rfl rfl (Nat.le_of_ble_eq_true rfl) dH_look_37 (kB_cell G 0 (by decide) z m v1 (1 : Int32)) (fun r37 => ?_)
    refine xR_isn 40 ([(3, .int r37), (2, .int r24), (0, .ref (xa G 81)), (1, .int v1)]) dH_look_40 rfl (by decide) rfl ?_
    refine xR_ic 41 (-1 : Int32) dH_look_41 (by decide) ?_
    refine xR_is 42 ([(4, .int (-1 : Int32)), (3, .int r37), (2, .int r24), (0, .ref (xa G 81)), (1, .int v1)]) dH_look_42 (by decide) rfl ?_
    refine xR_bp 44 (7 : Int32) dH_look_44 (by decide) ?_
    refine xR_is 46 ([(5, .int (7 : Int32)), (4, .int (-1 : Int32)), (3, .int r37), (2, .int r24), (0, .ref (xa G 81)), (1, .int v1)]) dH_look_46 (by decide) rfl ?_
    refine xR_ic 48 (0 : Int32) dH_look_48 (by decide) ?_
    refine xR_is 49 ([(6, .int (0 : Int32)), (5, .int (7 : Int32)), (4, .int (-1 : Int32)), (3, .int r37), (2, .int r24), (0, .ref (xa G 81)), (1, .int v1)]) dH_look_49 (by decide) rfl ?_
    exact xR_sub [5, 4, 3, 2, 1, 0] rfl (kH_look_l51 G z xfu r24 r37 (-1 : Int32) (7 : Int32) (0 : Int32) m)
  · refine xR_aln 14 0 dH_look_14 rfl rfl ?_
    refine xR_callVic 15 cv_H_bad ml_RX8_82 ⟨Nat.le_of_ble_eq_true rfl, Nat.le_of_ble_eq_true rfl⟩ xcf6 rfl 81 (by decide) rfl [] rfl rfl (Nat.le_of_ble_eq_true rfl) dH_look_15 (kH_bad G z m) (fun r15 => ?_)
    exact xR_iret 18 rfl rfl dH_look_18
theorem dH_kinds_0 : decode (xb yyH_kinds) 0 = .ok (.aload_n 0, 1) := by decide +kernel
theorem dH_kinds_1 : decode (xb yyH_kinds) 1 = .ok (.getfield 10, 3) := by decide +kernel
theorem dH_kinds_4 : decode (xb yyH_kinds) 4 = .ok (.iload_n 1, 1) := by decide +kernel
theorem dH_kinds_5 : decode (xb yyH_kinds) 5 = .ok (.invokevirtual 151, 3) := by decide +kernel
theorem dH_kinds_8 : decode (xb yyH_kinds) 8 = .ok (.ifCond .eq 14, 3) := by decide +kernel
theorem dH_kinds_11 : decode (xb yyH_kinds) 11 = .ok (.aload_n 0, 1) := by decide +kernel
theorem dH_kinds_12 : decode (xb yyH_kinds) 12 = .ok (.getfield 10, 3) := by decide +kernel
theorem dH_kinds_15 : decode (xb yyH_kinds) 15 = .ok (.iload_n 1, 1) := by decide +kernel
theorem dH_kinds_16 : decode (xb yyH_kinds) 16 = .ok (.invokevirtual 257, 3) := by decide +kernel
theorem dH_kinds_19 : decode (xb yyH_kinds) 19 = .ok (.goto 7, 3) := by decide +kernel
theorem dH_kinds_22 : decode (xb yyH_kinds) 22 = .ok (.aload_n 0, 1) := by decide +kernel
theorem dH_kinds_23 : decode (xb yyH_kinds) 23 = .ok (.invokevirtual 82, 3) := by decide +kernel
theorem dH_kinds_26 : decode (xb yyH_kinds) 26 = .ok (.ireturn, 1) := by decide +kernel
def fH_kinds  (v1 : Int32) (m : xM) : Option (Int32 × xM) := (fW_hasInstrument 0 m v1).bind fun r5 => (if r5 = 0 then (fH_bad m).bind fun r23 => some (r23.1, r23.2) else (fW_markedKinds 0 m v1).bind fun r16 => some (r16, m))
set_option maxRecDepth 100000 in
set_option maxHeartbeats 4000000 in
theorem kH_kinds (G : xG)   (z : xM) (m : xM) (v1 : Int32) : ∀ a, fH_kinds  v1 m = some a → xCt G yyH_kinds [.ref (xa G 81), .int v1] (m, z) (some (.int a.1)) (a.2, z) := by
  refine xR_ct (em := (emic z)) rfl (Nat.le_of_ble_eq_true rfl) ?_
  show xR G yyH_kinds _ 0 [(0, .ref (xa G 81)), (1, .int v1)] [] _ _
  unfold fH_kinds
  refine xR_aln 0 0 dH_kinds_0 rfl rfl ?_
  refine xR_getf 1 xcf6 0 81 (by decide) (by decide) rfl (v := .ref (xa G 77)) rfl fl_RX8_10 dH_kinds_1 ?_
  refine xR_iln 4 1 dH_kinds_4 rfl rfl ?_
  refine xR_callVi 5 cv_W_hasInstrument ml_RX8_151 ⟨Nat.le_of_ble_eq_true rfl, Nat.le_of_ble_eq_true rfl⟩ xcf5 rfl 77 (by decide) (xC_twn (t := 0) (by decide)) [.int v1] rfl rfl (Nat.le_of_ble_eq_true rfl) dH_kinds_5 (kW_hasInstrument G 0 (by decide) z m v1) (fun r5 => ?_)
  refine xR_ifeq 8 22 dH_kinds_8 (by decide) ?_ ?_
  · refine xR_aln 22 0 dH_kinds_22 rfl rfl ?_
    refine xR_callVic 23 cv_H_bad ml_RX8_82 ⟨Nat.le_of_ble_eq_true rfl, Nat.le_of_ble_eq_true rfl⟩ xcf6 rfl 81 (by decide) rfl [] rfl rfl (Nat.le_of_ble_eq_true rfl) dH_kinds_23 (kH_bad G z m) (fun r23 => ?_)
    exact xR_iret 26 rfl rfl dH_kinds_26
  · refine xR_aln 11 0 dH_kinds_11 rfl rfl ?_
    refine xR_getf 12 xcf6 0 81 (by decide) (by decide) rfl (v := .ref (xa G 77)) rfl fl_RX8_10 dH_kinds_12 ?_
    refine xR_iln 15 1 dH_kinds_15 rfl rfl ?_
    refine xR_callVi 16 cv_W_markedKinds ml_RX8_257 ⟨Nat.le_of_ble_eq_true rfl, Nat.le_of_ble_eq_true rfl⟩ xcf5 rfl 77 (by decide) (xC_twn (t := 0) (by decide)) [.int v1] rfl rfl (Nat.le_of_ble_eq_true rfl) dH_kinds_16 (kW_markedKinds G 0 (by decide) z m v1) (fun r16 => ?_)
    refine xR_goto 19 26 dH_kinds_19 (by decide) ?_
    exact xR_iret 26 rfl rfl dH_kinds_26
theorem dH_mostAlikeAsked_0 : decode (xb yyH_mostAlikeAsked) 0 = .ok (.iconst 0, 1) := by decide +kernel
theorem dH_mostAlikeAsked_1 : decode (xb yyH_mostAlikeAsked) 1 = .ok (.istore 5, 2) := by decide +kernel
theorem dH_mostAlikeAsked_3 : decode (xb yyH_mostAlikeAsked) 3 = .ok (.iload 5, 2) := by decide +kernel
theorem dH_mostAlikeAsked_5 : decode (xb yyH_mostAlikeAsked) 5 = .ok (.bipush 6, 2) := by decide +kernel
theorem dH_mostAlikeAsked_7 : decode (xb yyH_mostAlikeAsked) 7 = .ok (.if_icmp .ge 30, 3) := by decide +kernel
theorem dH_mostAlikeAsked_10 : decode (xb yyH_mostAlikeAsked) 10 = .ok (.aload_n 0, 1) := by decide +kernel
theorem dH_mostAlikeAsked_11 : decode (xb yyH_mostAlikeAsked) 11 = .ok (.getfield 58, 3) := by decide +kernel
theorem dH_mostAlikeAsked_14 : decode (xb yyH_mostAlikeAsked) 14 = .ok (.iload 5, 2) := by decide +kernel
theorem dH_mostAlikeAsked_16 : decode (xb yyH_mostAlikeAsked) 16 = .ok (.iconst 0, 1) := by decide +kernel
theorem dH_mostAlikeAsked_17 : decode (xb yyH_mostAlikeAsked) 17 = .ok (.iload 5, 2) := by decide +kernel
theorem dH_mostAlikeAsked_19 : decode (xb yyH_mostAlikeAsked) 19 = .ok (.iload_n 2, 1) := by decide +kernel
theorem dH_mostAlikeAsked_20 : decode (xb yyH_mostAlikeAsked) 20 = .ok (.bipush 20, 2) := by decide +kernel
theorem dH_mostAlikeAsked_22 : decode (xb yyH_mostAlikeAsked) 22 = .ok (.iload_n 3, 1) := by decide +kernel
theorem dH_mostAlikeAsked_23 : decode (xb yyH_mostAlikeAsked) 23 = .ok (.iload 4, 2) := by decide +kernel
theorem dH_mostAlikeAsked_25 : decode (xb yyH_mostAlikeAsked) 25 = .ok (.invokestatic 343, 3) := by decide +kernel
theorem dH_mostAlikeAsked_28 : decode (xb yyH_mostAlikeAsked) 28 = .ok (.invokevirtual 91, 3) := by decide +kernel
theorem dH_mostAlikeAsked_31 : decode (xb yyH_mostAlikeAsked) 31 = .ok (.iinc 5 1, 3) := by decide +kernel
theorem dH_mostAlikeAsked_34 : decode (xb yyH_mostAlikeAsked) 34 = .ok (.goto (-31), 3) := by decide +kernel
theorem dH_mostAlikeAsked_37 : decode (xb yyH_mostAlikeAsked) 37 = .ok (.aload_n 0, 1) := by decide +kernel
theorem dH_mostAlikeAsked_38 : decode (xb yyH_mostAlikeAsked) 38 = .ok (.iload_n 1, 1) := by decide +kernel
theorem dH_mostAlikeAsked_39 : decode (xb yyH_mostAlikeAsked) 39 = .ok (.invokevirtual 240, 3) := by decide +kernel
theorem dH_mostAlikeAsked_42 : decode (xb yyH_mostAlikeAsked) 42 = .ok (.ireturn, 1) := by decide +kernel
def fH_mostAlikeAsked_l3  : Nat → Int32 → Int32 → Int32 → Int32 → Int32 → xM → Option (Int32 × xM)
  | 0, _, _, _, _, _, _ => none
  | n + 1, v1, v2, v3, v4, v5, m => (if (6 : Int32) ≤ v5 then (fH_mostAlike m v1).bind fun r39 => some (r39, m) else (fS_playBy v5 v2 (20 : Int32) v3 v4).bind fun r25 => (fT_put 34 v5 (0 : Int32) r25 m).bind fun r28 => fH_mostAlikeAsked_l3 n v1 v2 v3 v4 (v5 + 1) r28)
def fH_mostAlikeAsked  (v1 : Int32) (v2 : Int32) (v3 : Int32) (v4 : Int32) (m : xM) : Option (Int32 × xM) := fH_mostAlikeAsked_l3 xfu v1 v2 v3 v4 (0 : Int32) m
set_option maxRecDepth 100000 in
set_option maxHeartbeats 4000000 in
theorem kH_mostAlikeAsked_l3 (G : xG)   (z : xM)    : ∀ (n : Nat) (v1 : Int32) (v2 : Int32) (v3 : Int32) (v4 : Int32) (v5 : Int32) (m : xM), xR G yyH_mostAlikeAsked (emic z) 3 [(0, .ref (xa G 81)), (1, .int v1), (2, .int v2), (3, .int v3), (4, .int v4), (5, .int v5)] [] (m, z) (fH_mostAlikeAsked_l3  n v1 v2 v3 v4 v5 m) := by
  intro n
  induction n with
  | zero =>
    intro v1 v2 v3 v4 v5 m
    rw [fH_mostAlikeAsked_l3]
    exact xR_none
  | succ n ih =>
    intro v1 v2 v3 v4 v5 m
    rw [fH_mostAlikeAsked_l3]
    refine xR_il 3 5 dH_mostAlikeAsked_3 rfl ?_
    refine xR_bp 5 (6 : Int32) dH_mostAlikeAsked_5 (by decide) ?_
    refine xR_icge 7 37 dH_mostAlikeAsked_7 (by decide) ?_ ?_
    · refine xR_aln 37 0 dH_mostAlikeAsked_37 rfl rfl ?_
      refine xR_iln 38 1 dH_mostAlikeAsked_38 rfl rfl ?_
      refine xR_callVi 39 cv_H_mostAlike ml_RX8_240 ⟨Nat.le_of_ble_eq_true rfl, Nat.le_of_ble_eq_true rfl⟩ xcf6 rfl 81 (by decide) rfl [.int v1] rfl rfl (Nat.le_of_ble_eq_true rfl) dH_mostAlikeAsked_39 (kH_mostAlike G z m v1) (fun r39 => ?_)
      exact xR_iret 42 rfl rfl dH_mostAlikeAsked_42
    · refine xR_aln 10 0 dH_mostAlikeAsked_10 rfl rfl ?_
      refine xR_getf 11 xcf6 7 81 (by decide) (by decide) rfl (v := .ref (xa G 70)) rfl fl_RX8_58 dH_mostAlikeAsked_11 ?_
      refine xR_il 14 5 dH_mostAlikeAsked_14 rfl ?_
      refine xR_ic 16 (0 : Int32) dH_mostAlikeAsked_16 (by decide) ?_
      refine xR_il 17 5 dH_mostAlikeAsked_17 rfl ?_
      refine xR_iln 19 2 dH_mostAlikeAsked_19 rfl rfl ?_
      refine xR_bp 20 (20 : Int32) dH_mostAlikeAsked_20 (by decide) ?_
      refine xR_iln 22 3 dH_mostAlikeAsked_22 rfl rfl ?_
      refine xR_il 23 4 dH_mostAlikeAsked_23 rfl ?_
      refine xR_callSi 25 cs_S_playBy ml_RX8_343 ⟨Nat.le_of_ble_eq_true rfl, Nat.le_of_ble_eq_true rfl⟩ [.int v5, .int v2, .int (20 : Int32), .int v3, .int v4] rfl rfl (Nat.le_of_ble_eq_true rfl) dH_mostAlikeAsked_25 (kS_playBy G (m, z) v5 v2 (20 : Int32) v3 v4) (fun r25 => ?_)
      refine xR_callVvc 28 cv_T_put ml_RX8_91 ⟨Nat.le_of_ble_eq_true rfl, Nat.le_of_ble_eq_true rfl⟩ xcf3 rfl 70 (by decide) (xC_tab (t := 34) (by decide)) [.int v5, .int (0 : Int32), .int r25] rfl rfl (Nat.le_of_ble_eq_true rfl) dH_mostAlikeAsked_28 (kT_put G 34 (by decide) z m v5 (0 : Int32) r25) (fun r28 => ?_)
      refine xR_iinc 31 5 (v5 + 1) ([(5, .int (v5 + 1)), (0, .ref (xa G 81)), (1, .int v1), (2, .int v2), (3, .int v3), (4, .int v4)]) dH_mostAlikeAsked_31 rfl rfl (by decide) rfl ?_
      refine xR_goto 34 3 dH_mostAlikeAsked_34 (by decide) ?_
      exact xR_sub [1, 2, 3, 4, 5, 0] rfl (ih v1 v2 v3 v4 (v5 + 1) r28)
set_option maxRecDepth 100000 in
set_option maxHeartbeats 4000000 in
theorem kH_mostAlikeAsked (G : xG)   (z : xM) (m : xM) (v1 : Int32) (v2 : Int32) (v3 : Int32) (v4 : Int32) : ∀ a, fH_mostAlikeAsked  v1 v2 v3 v4 m = some a → xCt G yyH_mostAlikeAsked [.ref (xa G 81), .int v1, .int v2, .int v3, .int v4] (m, z) (some (.int a.1)) (a.2, z) := by
  refine xR_ct (em := (emic z)) rfl (Nat.le_of_ble_eq_true rfl) ?_
  show xR G yyH_mostAlikeAsked _ 0 [(0, .ref (xa G 81)), (1, .int v1), (2, .int v2), (3, .int v3), (4, .int v4)] [] _ _
  unfold fH_mostAlikeAsked
  refine xR_ic 0 (0 : Int32) dH_mostAlikeAsked_0 (by decide) ?_
  refine xR_is 1 ([(5, .int (0 : Int32)), (0, .ref (xa G 81)), (1, .int v1), (2, .int v2), (3, .int v3), (4, .int v4)]) dH_mostAlikeAsked_1 (by decide) rfl ?_
  exact xR_sub [1, 2, 3, 4, 5, 0] rfl (kH_mostAlikeAsked_l3 G z xfu v1 v2 v3 v4 (0 : Int32) m)
theorem dH_ask_0 : decode (xb yyH_ask) 0 = .ok (.aload_n 0, 1) := by decide +kernel
theorem dH_ask_1 : decode (xb yyH_ask) 1 = .ok (.getfield 10, 3) := by decide +kernel
theorem dH_ask_4 : decode (xb yyH_ask) 4 = .ok (.iload_n 1, 1) := by decide +kernel
theorem dH_ask_5 : decode (xb yyH_ask) 5 = .ok (.invokevirtual 151, 3) := by decide +kernel
theorem dH_ask_8 : decode (xb yyH_ask) 8 = .ok (.ifCond .ne 8, 3) := by decide +kernel
theorem dH_ask_11 : decode (xb yyH_ask) 11 = .ok (.aload_n 0, 1) := by decide +kernel
theorem dH_ask_12 : decode (xb yyH_ask) 12 = .ok (.invokevirtual 82, 3) := by decide +kernel
theorem dH_ask_15 : decode (xb yyH_ask) 15 = .ok (.ireturn, 1) := by decide +kernel
theorem dH_ask_16 : decode (xb yyH_ask) 16 = .ok (.aload_n 0, 1) := by decide +kernel
theorem dH_ask_17 : decode (xb yyH_ask) 17 = .ok (.getfield 10, 3) := by decide +kernel
theorem dH_ask_20 : decode (xb yyH_ask) 20 = .ok (.iload_n 1, 1) := by decide +kernel
theorem dH_ask_21 : decode (xb yyH_ask) 21 = .ok (.invokevirtual 257, 3) := by decide +kernel
theorem dH_ask_24 : decode (xb yyH_ask) 24 = .ok (.istore_n 2, 1) := by decide +kernel
theorem dH_ask_25 : decode (xb yyH_ask) 25 = .ok (.iconst (-1), 1) := by decide +kernel
theorem dH_ask_26 : decode (xb yyH_ask) 26 = .ok (.istore_n 3, 1) := by decide +kernel
theorem dH_ask_27 : decode (xb yyH_ask) 27 = .ok (.bipush 7, 2) := by decide +kernel
theorem dH_ask_29 : decode (xb yyH_ask) 29 = .ok (.istore 4, 2) := by decide +kernel
theorem dH_ask_31 : decode (xb yyH_ask) 31 = .ok (.iconst 0, 1) := by decide +kernel
theorem dH_ask_32 : decode (xb yyH_ask) 32 = .ok (.istore 5, 2) := by decide +kernel
theorem dH_ask_34 : decode (xb yyH_ask) 34 = .ok (.iload 5, 2) := by decide +kernel
theorem dH_ask_36 : decode (xb yyH_ask) 36 = .ok (.sipush 400, 3) := by decide +kernel
theorem dH_ask_39 : decode (xb yyH_ask) 39 = .ok (.if_icmp .ge 72, 3) := by decide +kernel
theorem dH_ask_42 : decode (xb yyH_ask) 42 = .ok (.iload_n 2, 1) := by decide +kernel
theorem dH_ask_43 : decode (xb yyH_ask) 43 = .ok (.ifCond .eq 68, 3) := by decide +kernel
theorem dH_ask_46 : decode (xb yyH_ask) 46 = .ok (.iload 5, 2) := by decide +kernel
theorem dH_ask_48 : decode (xb yyH_ask) 48 = .ok (.bipush 10, 2) := by decide +kernel
theorem dH_ask_50 : decode (xb yyH_ask) 50 = .ok (.idiv, 1) := by decide +kernel
theorem dH_ask_51 : decode (xb yyH_ask) 51 = .ok (.bipush 10, 2) := by decide +kernel
theorem dH_ask_53 : decode (xb yyH_ask) 53 = .ok (.irem, 1) := by decide +kernel
theorem dH_ask_54 : decode (xb yyH_ask) 54 = .ok (.istore 6, 2) := by decide +kernel
theorem dH_ask_56 : decode (xb yyH_ask) 56 = .ok (.iload 5, 2) := by decide +kernel
theorem dH_ask_58 : decode (xb yyH_ask) 58 = .ok (.bipush 10, 2) := by decide +kernel
theorem dH_ask_60 : decode (xb yyH_ask) 60 = .ok (.irem, 1) := by decide +kernel
theorem dH_ask_61 : decode (xb yyH_ask) 61 = .ok (.istore 7, 2) := by decide +kernel
theorem dH_ask_63 : decode (xb yyH_ask) 63 = .ok (.iload 6, 2) := by decide +kernel
theorem dH_ask_65 : decode (xb yyH_ask) 65 = .ok (.iconst 4, 1) := by decide +kernel
theorem dH_ask_66 : decode (xb yyH_ask) 66 = .ok (.if_icmp .gt 39, 3) := by decide +kernel
theorem dH_ask_69 : decode (xb yyH_ask) 69 = .ok (.iload 7, 2) := by decide +kernel
theorem dH_ask_71 : decode (xb yyH_ask) 71 = .ok (.iconst 4, 1) := by decide +kernel
theorem dH_ask_72 : decode (xb yyH_ask) 72 = .ok (.if_icmp .gt 33, 3) := by decide +kernel
theorem dH_ask_75 : decode (xb yyH_ask) 75 = .ok (.aload_n 0, 1) := by decide +kernel
theorem dH_ask_76 : decode (xb yyH_ask) 76 = .ok (.iload_n 2, 1) := by decide +kernel
theorem dH_ask_77 : decode (xb yyH_ask) 77 = .ok (.iload 5, 2) := by decide +kernel
theorem dH_ask_79 : decode (xb yyH_ask) 79 = .ok (.bipush 100, 2) := by decide +kernel
theorem dH_ask_81 : decode (xb yyH_ask) 81 = .ok (.idiv, 1) := by decide +kernel
theorem dH_ask_82 : decode (xb yyH_ask) 82 = .ok (.iload 6, 2) := by decide +kernel
theorem dH_ask_84 : decode (xb yyH_ask) 84 = .ok (.iload 7, 2) := by decide +kernel
theorem dH_ask_86 : decode (xb yyH_ask) 86 = .ok (.invokevirtual 260, 3) := by decide +kernel
theorem dH_ask_89 : decode (xb yyH_ask) 89 = .ok (.istore 8, 2) := by decide +kernel
theorem dH_ask_91 : decode (xb yyH_ask) 91 = .ok (.iload 8, 2) := by decide +kernel
theorem dH_ask_93 : decode (xb yyH_ask) 93 = .ok (.iload 4, 2) := by decide +kernel
theorem dH_ask_95 : decode (xb yyH_ask) 95 = .ok (.if_icmp .ge 10, 3) := by decide +kernel
theorem dH_ask_98 : decode (xb yyH_ask) 98 = .ok (.iload 8, 2) := by decide +kernel
theorem dH_ask_100 : decode (xb yyH_ask) 100 = .ok (.istore 4, 2) := by decide +kernel
theorem dH_ask_102 : decode (xb yyH_ask) 102 = .ok (.iload 5, 2) := by decide +kernel
theorem dH_ask_104 : decode (xb yyH_ask) 104 = .ok (.istore_n 3, 1) := by decide +kernel
theorem dH_ask_105 : decode (xb yyH_ask) 105 = .ok (.iinc 5 1, 3) := by decide +kernel
theorem dH_ask_108 : decode (xb yyH_ask) 108 = .ok (.goto (-74), 3) := by decide +kernel
theorem dH_ask_111 : decode (xb yyH_ask) 111 = .ok (.iload_n 3, 1) := by decide +kernel
theorem dH_ask_112 : decode (xb yyH_ask) 112 = .ok (.ireturn, 1) := by decide +kernel
def fH_ask_b105 (k34 : Int32 → Int32 → Int32 → Int32 → xM → Option (Int32 × xM)) (v2 : Int32) (v3 : Int32) (v4 : Int32) (v5 : Int32) (m : xM) : Option (Int32 × xM) := k34 v2 v3 v4 (v5 + 1) m
def fH_ask_l34  : Nat → Int32 → Int32 → Int32 → Int32 → xM → Option (Int32 × xM)
  | 0, _, _, _, _, _ => none
  | n + 1, v2, v3, v4, v5, m => (if (400 : Int32) ≤ v5 then some (v3, m) else (if v2 = 0 then some (v3, m) else (if (4 : Int32) < ((v5 / (10 : Int32)) - (v5 / (10 : Int32)) / (10 : Int32) * (10 : Int32)) then fH_ask_b105 (fH_ask_l34 n) v2 v3 v4 v5 m else (if (4 : Int32) < (v5 - v5 / (10 : Int32) * (10 : Int32)) then fH_ask_b105 (fH_ask_l34 n) v2 v3 v4 v5 m else (fH_mostAlikeAsked v2 (v5 / (100 : Int32)) ((v5 / (10 : Int32)) - (v5 / (10 : Int32)) / (10 : Int32) * (10 : Int32)) (v5 - v5 / (10 : Int32) * (10 : Int32)) m).bind fun r86 => (if v4 ≤ r86.1 then fH_ask_b105 (fH_ask_l34 n) v2 v3 v4 v5 r86.2 else fH_ask_b105 (fH_ask_l34 n) v2 v5 r86.1 v5 r86.2)))))
def fH_ask  (v1 : Int32) (m : xM) : Option (Int32 × xM) := (fW_hasInstrument 0 m v1).bind fun r5 => (if r5 = 0 then (fH_bad m).bind fun r12 => some (r12.1, r12.2) else (fW_markedKinds 0 m v1).bind fun r21 => fH_ask_l34 xfu r21 (-1 : Int32) (7 : Int32) (0 : Int32) m)
set_option maxRecDepth 100000 in
set_option maxHeartbeats 4000000 in
theorem kH_ask_b105 (G : xG)   (z : xM)  (k34 : Int32 → Int32 → Int32 → Int32 → xM → Option (Int32 × xM)) (hk34 : ∀ (v2 : Int32) (v3 : Int32) (v4 : Int32) (v5 : Int32) (m : xM), xR G yyH_ask (emic z) 34 [(0, .ref (xa G 81)), (2, .int v2), (3, .int v3), (4, .int v4), (5, .int v5)] [] (m, z) (k34 v2 v3 v4 v5 m)) (v2 : Int32) (v3 : Int32) (v4 : Int32) (v5 : Int32) (m : xM) : xR G yyH_ask (emic z) 105 [(0, .ref (xa G 81)), (2, .int v2), (3, .int v3), (4, .int v4), (5, .int v5)] [] (m, z) (fH_ask_b105 k34 v2 v3 v4 v5 m) := by
  unfold fH_ask_b105
  refine xR_iinc 105 4 (v5 + 1) ([(5, .int (v5 + 1)), (0, .ref (xa G 81)), (2, .int v2), (3, .int v3), (4, .int v4)]) dH_ask_105 rfl rfl (by decide) rfl ?_
  refine xR_goto 108 34 dH_ask_108 (by decide) ?_
  exact xR_sub [1, 2, 3, 4, 0] rfl (hk34 v2 v3 v4 (v5 + 1) m)
set_option maxRecDepth 100000 in
set_option maxHeartbeats 4000000 in
theorem kH_ask_l34 (G : xG)   (z : xM)    : ∀ (n : Nat) (v2 : Int32) (v3 : Int32) (v4 : Int32) (v5 : Int32) (m : xM), xR G yyH_ask (emic z) 34 [(0, .ref (xa G 81)), (2, .int v2), (3, .int v3), (4, .int v4), (5, .int v5)] [] (m, z) (fH_ask_l34  n v2 v3 v4 v5 m) := by
  intro n
  induction n with
  | zero =>
    intro v2 v3 v4 v5 m
    rw [fH_ask_l34]
    exact xR_none
  | succ n ih =>
    intro v2 v3 v4 v5 m
    rw [fH_ask_l34]
    refine xR_il 34 4 dH_ask_34 rfl ?_
    refine xR_sp 36 (400 : Int32) dH_ask_36 (by decide) ?_
    refine xR_icge 39 111 dH_ask_39 (by decide) ?_ ?_
    · refine xR_iln 111 2 dH_ask_111 rfl rfl ?_
      exact xR_iret 112 rfl rfl dH_ask_112
    · refine xR_iln 42 1 dH_ask_42 rfl rfl ?_
      refine xR_ifeq 43 111 dH_ask_43 (by decide) ?_ ?_
      · refine xR_iln 111 2 dH_ask_111 rfl rfl ?_
        exact xR_iret 112 rfl rfl dH_ask_112
      · refine xR_il 46 4 dH_ask_46 rfl ?_
        refine xR_bp 48 (10 : Int32) dH_ask_48 (by decide) ?_
        refine xR_idiv 50 dH_ask_50 (by decide) ?_
        refine xR_bp 51 (10 : Int32) dH_ask_51 (by decide) ?_
        refine xR_irem 53 dH_ask_53 (by decide) ?_
        refine xR_is 54 ([(6, .int ((v5 / (10 : Int32)) - (v5 / (10 : Int32)) / (10 : Int32) * (10 : Int32))), (0, .ref (xa G 81)), (2, .int v2), (3, .int v3), (4, .int v4), (5, .int v5)]) dH_ask_54 (by decide) rfl ?_
        refine xR_il 56 5 dH_ask_56 rfl ?_
        refine xR_bp 58 (10 : Int32) dH_ask_58 (by decide) ?_
        refine xR_irem 60 dH_ask_60 (by decide) ?_
        refine xR_is 61 ([(7, .int (v5 - v5 / (10 : Int32) * (10 : Int32))), (6, .int ((v5 / (10 : Int32)) - (v5 / (10 : Int32)) / (10 : Int32) * (10 : Int32))), (0, .ref (xa G 81)), (2, .int v2), (3, .int v3), (4, .int v4), (5, .int v5)]) dH_ask_61 (by decide) rfl ?_
        refine xR_il 63 1 dH_ask_63 rfl ?_
        refine xR_ic 65 (4 : Int32) dH_ask_65 (by decide) ?_
        refine xR_icgt 66 105 dH_ask_66 (by decide) ?_ ?_
        · exact xR_sub [2, 3, 4, 5, 6] rfl (kH_ask_b105 G z (fH_ask_l34 n) ih v2 v3 v4 v5 m)
        · refine xR_il 69 0 dH_ask_69 rfl ?_
          refine xR_ic 71 (4 : Int32) dH_ask_71 (by decide) ?_
          refine xR_icgt 72 105 dH_ask_72 (by decide) ?_ ?_
          · exact xR_sub [2, 3, 4, 5, 6] rfl (kH_ask_b105 G z (fH_ask_l34 n) ih v2 v3 v4 v5 m)
          · refine xR_aln 75 2 dH_ask_75 rfl rfl ?_
            refine xR_iln 76 3 dH_ask_76 rfl rfl ?_
            refine xR_il 77 6 dH_ask_77 rfl ?_
            refine xR_bp 79 (100 : Int32) dH_ask_79 (by decide) ?_
            refine xR_idiv 81 dH_ask_81 (by decide) ?_
            refine xR_il 82 1 dH_ask_82 rfl ?_
            refine xR_il 84 0 dH_ask_84 rfl ?_
            refine xR_callVic 86 cv_H_mostAlikeAsked ml_RX8_260 ⟨Nat.le_of_ble_eq_true rfl, Nat.le_of_ble_eq_true rfl⟩ xcf6 rfl 81 (by decide) rfl [.int v2, .int (v5 / (100 : Int32)), .int ((v5 / (10 : Int32)) - (v5 / (10 : Int32)) / (10 : Int32) * (10 : Int32)), .int (v5 - v5 / (10 : Int32) * (10 : Int32))] rfl rfl (Nat.le_of_ble_eq_true rfl) dH_ask_86 (kH_mostAlikeAsked G z m v2 (v5 / (100 : Int32)) ((v5 / (10 : Int32)) - (v5 / (10 : Int32)) / (10 : Int32) * (10 : Int32)) (v5 - v5 / (10 : Int32) * (10 : Int32))) (fun r86 => ?_)
            refine xR_is 89 ([(8, .int r86.1), (7, .int (v5 - v5 / (10 : Int32) * (10 : Int32))), (6, .int ((v5 / (10 : Int32)) - (v5 / (10 : Int32)) / (10 : Int32) * (10 : Int32))), (0, .ref (xa G 81)), (2, .int v2), (3, .int v3), (4, .int v4), (5, .int v5)]) dH_ask_89 (by decide) rfl ?_
            refine xR_il 91 0 dH_ask_91 rfl ?_
            refine xR_il 93 6 dH_ask_93 rfl ?_
            refine xR_icge 95 105 dH_ask_95 (by decide) ?_ ?_
            · exact xR_sub [3, 4, 5, 6, 7] rfl (kH_ask_b105 G z (fH_ask_l34 n) ih v2 v3 v4 v5 r86.2)
            · refine xR_il 98 0 dH_ask_98 rfl ?_
              refine xR_is 100 ([(4, .int r86.1), (8, .int r86.1), (7, .int (v5 - v5 / (10 : Int32) * (10 : Int32))), (6, .int ((v5 / (10 : Int32)) - (v5 / (10 : Int32)) / (10 : Int32) * (10 : Int32))), (0, .ref (xa G 81)), (2, .int v2), (3, .int v3), (5, .int v5)]) dH_ask_100 (by decide) rfl ?_
              refine xR_il 102 7 dH_ask_102 rfl ?_
              refine xR_isn 104 ([(3, .int v5), (4, .int r86.1), (8, .int r86.1), (7, .int (v5 - v5 / (10 : Int32) * (10 : Int32))), (6, .int ((v5 / (10 : Int32)) - (v5 / (10 : Int32)) / (10 : Int32) * (10 : Int32))), (0, .ref (xa G 81)), (2, .int v2), (5, .int v5)]) dH_ask_104 rfl (by decide) rfl ?_
              exact xR_sub [5, 6, 0, 1, 7] rfl (kH_ask_b105 G z (fH_ask_l34 n) ih v2 v5 r86.1 v5 r86.2)
set_option maxRecDepth 100000 in
set_option maxHeartbeats 4000000 in
theorem kH_ask (G : xG)   (z : xM) (m : xM) (v1 : Int32) : ∀ a, fH_ask  v1 m = some a → xCt G yyH_ask [.ref (xa G 81), .int v1] (m, z) (some (.int a.1)) (a.2, z) := by
  refine xR_ct (em := (emic z)) rfl (Nat.le_of_ble_eq_true rfl) ?_
  show xR G yyH_ask _ 0 [(0, .ref (xa G 81)), (1, .int v1)] [] _ _
  unfold fH_ask
  refine xR_aln 0 0 dH_ask_0 rfl rfl ?_
  refine xR_getf 1 xcf6 0 81 (by decide) (by decide) rfl (v := .ref (xa G 77)) rfl fl_RX8_10 dH_ask_1 ?_
  refine xR_iln 4 1 dH_ask_4 rfl rfl ?_
  refine xR_callVi 5 cv_W_hasInstrument ml_RX8_151 ⟨Nat.le_of_ble_eq_true rfl, Nat.le_of_ble_eq_true rfl⟩ xcf5 rfl 77 (by decide) (xC_twn (t := 0) (by decide)) [.int v1] rfl rfl (Nat.le_of_ble_eq_true rfl) dH_ask_5 (kW_hasInstrument G 0 (by decide) z m v1) (fun r5 => ?_)
  refine xR_ifne 8 16 dH_ask_8 (by decide) ?_ ?_
  · refine xR_aln 16 0 dH_ask_16 rfl rfl ?_
    refine xR_getf 17 xcf6 0 81 (by decide) (by decide) rfl (v := .ref (xa G 77)) rfl fl_RX8_10 dH_ask_17 ?_
    refine xR_iln 20 1 dH_ask_20 rfl rfl ?_
    refine xR_callVi 21 cv_W_markedKinds ml_RX8_257 ⟨Nat.le_of_ble_eq_true rfl, Nat.le_of_ble_eq_true rfl⟩ xcf5 rfl 77 (by decide) (xC_twn (t := 0) (by decide)) [.int v1] rfl rfl (Nat.le_of_ble_eq_true rfl) dH_ask_21 (kW_markedKinds G 0 (by decide) z m v1) (fun r21 => ?_)
    refine xR_isn 24 ([(2, .int r21), (0, .ref (xa G 81)), (1, .int v1)]) dH_ask_24 rfl (by decide) rfl ?_
    refine xR_ic 25 (-1 : Int32) dH_ask_25 (by decide) ?_
    refine xR_isn 26 ([(3, .int (-1 : Int32)), (2, .int r21), (0, .ref (xa G 81)), (1, .int v1)]) dH_ask_26 rfl (by decide) rfl ?_
    refine xR_bp 27 (7 : Int32) dH_ask_27 (by decide) ?_
    refine xR_is 29 ([(4, .int (7 : Int32)), (3, .int (-1 : Int32)), (2, .int r21), (0, .ref (xa G 81)), (1, .int v1)]) dH_ask_29 (by decide) rfl ?_
    refine xR_ic 31 (0 : Int32) dH_ask_31 (by decide) ?_
    refine xR_is 32 ([(5, .int (0 : Int32)), (4, .int (7 : Int32)), (3, .int (-1 : Int32)), (2, .int r21), (0, .ref (xa G 81)), (1, .int v1)]) dH_ask_32 (by decide) rfl ?_
    exact xR_sub [4, 3, 2, 1, 0] rfl (kH_ask_l34 G z xfu r21 (-1 : Int32) (7 : Int32) (0 : Int32) m)
  · refine xR_aln 11 0 dH_ask_11 rfl rfl ?_
    refine xR_callVic 12 cv_H_bad ml_RX8_82 ⟨Nat.le_of_ble_eq_true rfl, Nat.le_of_ble_eq_true rfl⟩ xcf6 rfl 81 (by decide) rfl [] rfl rfl (Nat.le_of_ble_eq_true rfl) dH_ask_12 (kH_bad G z m) (fun r12 => ?_)
    exact xR_iret 15 rfl rfl dH_ask_15
theorem dH_bids_0 : decode (xb yyH_bids) 0 = .ok (.aload_n 0, 1) := by decide +kernel
theorem dH_bids_1 : decode (xb yyH_bids) 1 = .ok (.getfield 10, 3) := by decide +kernel
theorem dH_bids_4 : decode (xb yyH_bids) 4 = .ok (.iload_n 1, 1) := by decide +kernel
theorem dH_bids_5 : decode (xb yyH_bids) 5 = .ok (.invokevirtual 151, 3) := by decide +kernel
theorem dH_bids_8 : decode (xb yyH_bids) 8 = .ok (.ifCond .eq 8, 3) := by decide +kernel
theorem dH_bids_11 : decode (xb yyH_bids) 11 = .ok (.iload_n 2, 1) := by decide +kernel
theorem dH_bids_12 : decode (xb yyH_bids) 12 = .ok (.iconst (-1), 1) := by decide +kernel
theorem dH_bids_13 : decode (xb yyH_bids) 13 = .ok (.if_icmp .ge 10, 3) := by decide +kernel
theorem dH_bids_16 : decode (xb yyH_bids) 16 = .ok (.aload_n 0, 1) := by decide +kernel
theorem dH_bids_17 : decode (xb yyH_bids) 17 = .ok (.bipush (-10), 2) := by decide +kernel
theorem dH_bids_19 : decode (xb yyH_bids) 19 = .ok (.invokevirtual 212, 3) := by decide +kernel
theorem dH_bids_22 : decode (xb yyH_bids) 22 = .ok (.ireturn, 1) := by decide +kernel
theorem dH_bids_23 : decode (xb yyH_bids) 23 = .ok (.aload_n 0, 1) := by decide +kernel
theorem dH_bids_24 : decode (xb yyH_bids) 24 = .ok (.getfield 10, 3) := by decide +kernel
theorem dH_bids_27 : decode (xb yyH_bids) 27 = .ok (.iload_n 1, 1) := by decide +kernel
theorem dH_bids_28 : decode (xb yyH_bids) 28 = .ok (.iconst 0, 1) := by decide +kernel
theorem dH_bids_29 : decode (xb yyH_bids) 29 = .ok (.invokevirtual 182, 3) := by decide +kernel
theorem dH_bids_32 : decode (xb yyH_bids) 32 = .ok (.bipush 9, 2) := by decide +kernel
theorem dH_bids_34 : decode (xb yyH_bids) 34 = .ok (.invokestatic 263, 3) := by decide +kernel
theorem dH_bids_37 : decode (xb yyH_bids) 37 = .ok (.istore_n 3, 1) := by decide +kernel
theorem dH_bids_38 : decode (xb yyH_bids) 38 = .ok (.iconst 0, 1) := by decide +kernel
theorem dH_bids_39 : decode (xb yyH_bids) 39 = .ok (.istore 4, 2) := by decide +kernel
theorem dH_bids_41 : decode (xb yyH_bids) 41 = .ok (.iconst 0, 1) := by decide +kernel
theorem dH_bids_42 : decode (xb yyH_bids) 42 = .ok (.istore 5, 2) := by decide +kernel
theorem dH_bids_44 : decode (xb yyH_bids) 44 = .ok (.iload 5, 2) := by decide +kernel
theorem dH_bids_46 : decode (xb yyH_bids) 46 = .ok (.bipush 100, 2) := by decide +kernel
theorem dH_bids_48 : decode (xb yyH_bids) 48 = .ok (.if_icmp .ge 38, 3) := by decide +kernel
theorem dH_bids_51 : decode (xb yyH_bids) 51 = .ok (.iload_n 3, 1) := by decide +kernel
theorem dH_bids_52 : decode (xb yyH_bids) 52 = .ok (.iload 5, 2) := by decide +kernel
theorem dH_bids_54 : decode (xb yyH_bids) 54 = .ok (.bipush 10, 2) := by decide +kernel
theorem dH_bids_56 : decode (xb yyH_bids) 56 = .ok (.idiv, 1) := by decide +kernel
theorem dH_bids_57 : decode (xb yyH_bids) 57 = .ok (.iload 5, 2) := by decide +kernel
theorem dH_bids_59 : decode (xb yyH_bids) 59 = .ok (.bipush 10, 2) := by decide +kernel
theorem dH_bids_61 : decode (xb yyH_bids) 61 = .ok (.irem, 1) := by decide +kernel
theorem dH_bids_62 : decode (xb yyH_bids) 62 = .ok (.invokestatic 266, 3) := by decide +kernel
theorem dH_bids_65 : decode (xb yyH_bids) 65 = .ok (.ifCond .eq 15, 3) := by decide +kernel
theorem dH_bids_68 : decode (xb yyH_bids) 68 = .ok (.iload 4, 2) := by decide +kernel
theorem dH_bids_70 : decode (xb yyH_bids) 70 = .ok (.iload_n 2, 1) := by decide +kernel
theorem dH_bids_71 : decode (xb yyH_bids) 71 = .ok (.if_icmp .ne 6, 3) := by decide +kernel
theorem dH_bids_74 : decode (xb yyH_bids) 74 = .ok (.iload 5, 2) := by decide +kernel
theorem dH_bids_76 : decode (xb yyH_bids) 76 = .ok (.ireturn, 1) := by decide +kernel
theorem dH_bids_77 : decode (xb yyH_bids) 77 = .ok (.iinc 4 1, 3) := by decide +kernel
theorem dH_bids_80 : decode (xb yyH_bids) 80 = .ok (.iinc 5 1, 3) := by decide +kernel
theorem dH_bids_83 : decode (xb yyH_bids) 83 = .ok (.goto (-39), 3) := by decide +kernel
theorem dH_bids_86 : decode (xb yyH_bids) 86 = .ok (.iload_n 2, 1) := by decide +kernel
theorem dH_bids_87 : decode (xb yyH_bids) 87 = .ok (.iconst (-1), 1) := by decide +kernel
theorem dH_bids_88 : decode (xb yyH_bids) 88 = .ok (.if_icmp .ne 8, 3) := by decide +kernel
theorem dH_bids_91 : decode (xb yyH_bids) 91 = .ok (.iload 4, 2) := by decide +kernel
theorem dH_bids_93 : decode (xb yyH_bids) 93 = .ok (.goto 5, 3) := by decide +kernel
theorem dH_bids_96 : decode (xb yyH_bids) 96 = .ok (.bipush (-5), 2) := by decide +kernel
theorem dH_bids_98 : decode (xb yyH_bids) 98 = .ok (.ireturn, 1) := by decide +kernel
def fH_bids_b80 (k44 : Int32 → Int32 → Int32 → Int32 → xM → Option (Int32 × xM)) (v2 : Int32) (v3 : Int32) (v4 : Int32) (v5 : Int32) (m : xM) : Option (Int32 × xM) := k44 v2 v3 v4 (v5 + 1) m
def fH_bids_l44  : Nat → Int32 → Int32 → Int32 → Int32 → xM → Option (Int32 × xM)
  | 0, _, _, _, _, _ => none
  | n + 1, v2, v3, v4, v5, m => (if (100 : Int32) ≤ v5 then (if v2 = (-1 : Int32) then some (v4, m) else some ((-5 : Int32), m)) else (fH_rests v3 (v5 / (10 : Int32)) (v5 - v5 / (10 : Int32) * (10 : Int32))).bind fun r62 => (if r62 = 0 then fH_bids_b80 (fH_bids_l44 n) v2 v3 v4 v5 m else (if v4 = v2 then some (v5, m) else fH_bids_b80 (fH_bids_l44 n) v2 v3 (v4 + 1) v5 m)))
def fH_bids  (v1 : Int32) (v2 : Int32) (m : xM) : Option (Int32 × xM) := (fW_hasInstrument 0 m v1).bind fun r5 => (if r5 = 0 then (fH_badAs (-10 : Int32) m).bind fun r19 => some (r19.1, r19.2) else (if (-1 : Int32) ≤ v2 then (fW_playOf 0 m v1 (0 : Int32)).bind fun r29 => fH_bids_l44 xfu v2 (xmin r29 (9 : Int32)) (0 : Int32) (0 : Int32) m else (fH_badAs (-10 : Int32) m).bind fun r19 => some (r19.1, r19.2)))
set_option maxRecDepth 100000 in
set_option maxHeartbeats 4000000 in
theorem kH_bids_b80 (G : xG)   (z : xM)  (k44 : Int32 → Int32 → Int32 → Int32 → xM → Option (Int32 × xM)) (hk44 : ∀ (v2 : Int32) (v3 : Int32) (v4 : Int32) (v5 : Int32) (m : xM), xR G yyH_bids (emic z) 44 [(2, .int v2), (3, .int v3), (4, .int v4), (5, .int v5)] [] (m, z) (k44 v2 v3 v4 v5 m)) (v2 : Int32) (v3 : Int32) (v4 : Int32) (v5 : Int32) (m : xM) : xR G yyH_bids (emic z) 80 [(2, .int v2), (3, .int v3), (4, .int v4), (5, .int v5)] [] (m, z) (fH_bids_b80 k44 v2 v3 v4 v5 m) := by
  unfold fH_bids_b80
  refine xR_iinc 80 3 (v5 + 1) ([(5, .int (v5 + 1)), (2, .int v2), (3, .int v3), (4, .int v4)]) dH_bids_80 rfl rfl (by decide) rfl ?_
  refine xR_goto 83 44 dH_bids_83 (by decide) ?_
  exact xR_sub [1, 2, 3, 0] rfl (hk44 v2 v3 v4 (v5 + 1) m)
set_option maxRecDepth 100000 in
set_option maxHeartbeats 4000000 in
theorem kH_bids_l44 (G : xG)   (z : xM)    : ∀ (n : Nat) (v2 : Int32) (v3 : Int32) (v4 : Int32) (v5 : Int32) (m : xM), xR G yyH_bids (emic z) 44 [(2, .int v2), (3, .int v3), (4, .int v4), (5, .int v5)] [] (m, z) (fH_bids_l44  n v2 v3 v4 v5 m) := by
  intro n
  induction n with
  | zero =>
    intro v2 v3 v4 v5 m
    rw [fH_bids_l44]
    exact xR_none
  | succ n ih =>
    intro v2 v3 v4 v5 m
    rw [fH_bids_l44]
    refine xR_il 44 3 dH_bids_44 rfl ?_
    refine xR_bp 46 (100 : Int32) dH_bids_46 (by decide) ?_
    refine xR_icge 48 86 dH_bids_48 (by decide) ?_ ?_
    · refine xR_iln 86 0 dH_bids_86 rfl rfl ?_
      refine xR_ic 87 (-1 : Int32) dH_bids_87 (by decide) ?_
      refine xR_icne 88 96 dH_bids_88 (by decide) ?_ ?_
      · refine xR_bp 96 (-5 : Int32) dH_bids_96 (by decide) ?_
        exact xR_iret 98 rfl rfl dH_bids_98
      · refine xR_il 91 2 dH_bids_91 rfl ?_
        refine xR_goto 93 98 dH_bids_93 (by decide) ?_
        exact xR_iret 98 rfl rfl dH_bids_98
    · refine xR_iln 51 1 dH_bids_51 rfl rfl ?_
      refine xR_il 52 3 dH_bids_52 rfl ?_
      refine xR_bp 54 (10 : Int32) dH_bids_54 (by decide) ?_
      refine xR_idiv 56 dH_bids_56 (by decide) ?_
      refine xR_il 57 3 dH_bids_57 rfl ?_
      refine xR_bp 59 (10 : Int32) dH_bids_59 (by decide) ?_
      refine xR_irem 61 dH_bids_61 (by decide) ?_
      refine xR_callSi 62 cs_H_rests ml_RX8_266 ⟨Nat.le_of_ble_eq_true rfl, Nat.le_of_ble_eq_true rfl⟩ [.int v3, .int (v5 / (10 : Int32)), .int (v5 - v5 / (10 : Int32) * (10 : Int32))] rfl rfl (Nat.le_of_ble_eq_true rfl) dH_bids_62 (kH_rests G (m, z) v3 (v5 / (10 : Int32)) (v5 - v5 / (10 : Int32) * (10 : Int32))) (fun r62 => ?_)
      refine xR_ifeq 65 80 dH_bids_65 (by decide) ?_ ?_
      · exact kH_bids_b80 G z (fH_bids_l44 n) ih v2 v3 v4 v5 m
      · refine xR_il 68 2 dH_bids_68 rfl ?_
        refine xR_iln 70 0 dH_bids_70 rfl rfl ?_
        refine xR_icne 71 77 dH_bids_71 (by decide) ?_ ?_
        · refine xR_iinc 77 2 (v4 + 1) ([(4, .int (v4 + 1)), (2, .int v2), (3, .int v3), (5, .int v5)]) dH_bids_77 rfl rfl (by decide) rfl ?_
          exact xR_sub [1, 2, 0, 3] rfl (kH_bids_b80 G z (fH_bids_l44 n) ih v2 v3 (v4 + 1) v5 m)
        · refine xR_il 74 3 dH_bids_74 rfl ?_
          exact xR_iret 76 rfl rfl dH_bids_76
set_option maxRecDepth 100000 in
set_option maxHeartbeats 4000000 in
theorem kH_bids (G : xG)   (z : xM) (m : xM) (v1 : Int32) (v2 : Int32) : ∀ a, fH_bids  v1 v2 m = some a → xCt G yyH_bids [.ref (xa G 81), .int v1, .int v2] (m, z) (some (.int a.1)) (a.2, z) := by
  refine xR_ct (em := (emic z)) rfl (Nat.le_of_ble_eq_true rfl) ?_
  show xR G yyH_bids _ 0 [(0, .ref (xa G 81)), (1, .int v1), (2, .int v2)] [] _ _
  unfold fH_bids
  refine xR_aln 0 0 dH_bids_0 rfl rfl ?_
  refine xR_getf 1 xcf6 0 81 (by decide) (by decide) rfl (v := .ref (xa G 77)) rfl fl_RX8_10 dH_bids_1 ?_
  refine xR_iln 4 1 dH_bids_4 rfl rfl ?_
  refine xR_callVi 5 cv_W_hasInstrument ml_RX8_151 ⟨Nat.le_of_ble_eq_true rfl, Nat.le_of_ble_eq_true rfl⟩ xcf5 rfl 77 (by decide) (xC_twn (t := 0) (by decide)) [.int v1] rfl rfl (Nat.le_of_ble_eq_true rfl) dH_bids_5 (kW_hasInstrument G 0 (by decide) z m v1) (fun r5 => ?_)
  refine xR_ifeq 8 16 dH_bids_8 (by decide) ?_ ?_
  · refine xR_aln 16 0 dH_bids_16 rfl rfl ?_
    refine xR_bp 17 (-10 : Int32) dH_bids_17 (by decide) ?_
    refine xR_callVic 19 cv_H_badAs ml_RX8_212 ⟨Nat.le_of_ble_eq_true rfl, Nat.le_of_ble_eq_true rfl⟩ xcf6 rfl 81 (by decide) rfl [.int (-10 : Int32)] rfl rfl (Nat.le_of_ble_eq_true rfl) dH_bids_19 (kH_badAs G z m (-10 : Int32)) (fun r19 => ?_)
    exact xR_iret 22 rfl rfl dH_bids_22
  · refine xR_iln 11 2 dH_bids_11 rfl rfl ?_
    refine xR_ic 12 (-1 : Int32) dH_bids_12 (by decide) ?_
    refine xR_icge 13 23 dH_bids_13 (by decide) ?_ ?_
    · refine xR_aln 23 0 dH_bids_23 rfl rfl ?_
      refine xR_getf 24 xcf6 0 81 (by decide) (by decide) rfl (v := .ref (xa G 77)) rfl fl_RX8_10 dH_bids_24 ?_
      refine xR_iln 27 1 dH_bids_27 rfl rfl ?_
      refine xR_ic 28 (0 : Int32) dH_bids_28 (by decide) ?_
      refine xR_callVi 29 cv_W_playOf ml_RX8_182 ⟨Nat.le_of_ble_eq_true rfl, Nat.le_of_ble_eq_true rfl⟩ xcf5 rfl 77 (by decide) (xC_twn (t := 0) (by decide)) [.int v1, .int (0 : Int32)] rfl rfl (Nat.le_of_ble_eq_true rfl) dH_bids_29 (kW_playOf G 0 (by decide) z m v1 (0 : Int32)) (fun r29 => ?_)
      refine xR_bp 32 (9 : Int32) dH_bids_32 (by decide) ?_
      refine xR_mmin 34 ml_RX8_263 ⟨Nat.le_of_ble_eq_true rfl, Nat.le_of_ble_eq_true rfl⟩ dH_bids_34 ?_
      refine xR_isn 37 ([(3, .int (xmin r29 (9 : Int32))), (0, .ref (xa G 81)), (1, .int v1), (2, .int v2)]) dH_bids_37 rfl (by decide) rfl ?_
      refine xR_ic 38 (0 : Int32) dH_bids_38 (by decide) ?_
      refine xR_is 39 ([(4, .int (0 : Int32)), (3, .int (xmin r29 (9 : Int32))), (0, .ref (xa G 81)), (1, .int v1), (2, .int v2)]) dH_bids_39 (by decide) rfl ?_
      refine xR_ic 41 (0 : Int32) dH_bids_41 (by decide) ?_
      refine xR_is 42 ([(5, .int (0 : Int32)), (4, .int (0 : Int32)), (3, .int (xmin r29 (9 : Int32))), (0, .ref (xa G 81)), (1, .int v1), (2, .int v2)]) dH_bids_42 (by decide) rfl ?_
      exact xR_sub [5, 2, 1, 0] rfl (kH_bids_l44 G z xfu v2 (xmin r29 (9 : Int32)) (0 : Int32) (0 : Int32) m)
    · refine xR_aln 16 0 dH_bids_16 rfl rfl ?_
      refine xR_bp 17 (-10 : Int32) dH_bids_17 (by decide) ?_
      refine xR_callVic 19 cv_H_badAs ml_RX8_212 ⟨Nat.le_of_ble_eq_true rfl, Nat.le_of_ble_eq_true rfl⟩ xcf6 rfl 81 (by decide) rfl [.int (-10 : Int32)] rfl rfl (Nat.le_of_ble_eq_true rfl) dH_bids_19 (kH_badAs G z m (-10 : Int32)) (fun r19 => ?_)
      exact xR_iret 22 rfl rfl dH_bids_22
theorem dH_playWeeping_0 : decode (xb yyH_playWeeping) 0 = .ok (.aload_n 0, 1) := by decide +kernel
theorem dH_playWeeping_1 : decode (xb yyH_playWeeping) 1 = .ok (.getfield 25, 3) := by decide +kernel
theorem dH_playWeeping_4 : decode (xb yyH_playWeeping) 4 = .ok (.aload_n 0, 1) := by decide +kernel
theorem dH_playWeeping_5 : decode (xb yyH_playWeeping) 5 = .ok (.getfield 10, 3) := by decide +kernel
theorem dH_playWeeping_8 : decode (xb yyH_playWeeping) 8 = .ok (.getfield 68, 3) := by decide +kernel
theorem dH_playWeeping_11 : decode (xb yyH_playWeeping) 11 = .ok (.invokevirtual 185, 3) := by decide +kernel
theorem dH_playWeeping_14 : decode (xb yyH_playWeeping) 14 = .ok (.iconst 0, 1) := by decide +kernel
theorem dH_playWeeping_15 : decode (xb yyH_playWeeping) 15 = .ok (.istore 4, 2) := by decide +kernel
theorem dH_playWeeping_17 : decode (xb yyH_playWeeping) 17 = .ok (.iload 4, 2) := by decide +kernel
theorem dH_playWeeping_19 : decode (xb yyH_playWeeping) 19 = .ok (.aload_n 0, 1) := by decide +kernel
theorem dH_playWeeping_20 : decode (xb yyH_playWeeping) 20 = .ok (.getfield 25, 3) := by decide +kernel
theorem dH_playWeeping_23 : decode (xb yyH_playWeeping) 23 = .ok (.invokevirtual 71, 3) := by decide +kernel
theorem dH_playWeeping_26 : decode (xb yyH_playWeeping) 26 = .ok (.if_icmp .ge 28, 3) := by decide +kernel
theorem dH_playWeeping_29 : decode (xb yyH_playWeeping) 29 = .ok (.iload_n 3, 1) := by decide +kernel
theorem dH_playWeeping_30 : decode (xb yyH_playWeeping) 30 = .ok (.iload 4, 2) := by decide +kernel
theorem dH_playWeeping_32 : decode (xb yyH_playWeeping) 32 = .ok (.invokestatic 331, 3) := by decide +kernel
theorem dH_playWeeping_35 : decode (xb yyH_playWeeping) 35 = .ok (.ifCond .eq 13, 3) := by decide +kernel
theorem dH_playWeeping_38 : decode (xb yyH_playWeeping) 38 = .ok (.aload_n 0, 1) := by decide +kernel
theorem dH_playWeeping_39 : decode (xb yyH_playWeeping) 39 = .ok (.getfield 25, 3) := by decide +kernel
theorem dH_playWeeping_42 : decode (xb yyH_playWeeping) 42 = .ok (.iload 4, 2) := by decide +kernel
theorem dH_playWeeping_44 : decode (xb yyH_playWeeping) 44 = .ok (.iconst 3, 1) := by decide +kernel
theorem dH_playWeeping_45 : decode (xb yyH_playWeeping) 45 = .ok (.invokevirtual 334, 3) := by decide +kernel
theorem dH_playWeeping_48 : decode (xb yyH_playWeeping) 48 = .ok (.iinc 4 1, 3) := by decide +kernel
theorem dH_playWeeping_51 : decode (xb yyH_playWeeping) 51 = .ok (.goto (-34), 3) := by decide +kernel
theorem dH_playWeeping_54 : decode (xb yyH_playWeeping) 54 = .ok (.aload_n 0, 1) := by decide +kernel
theorem dH_playWeeping_55 : decode (xb yyH_playWeeping) 55 = .ok (.getfield 10, 3) := by decide +kernel
theorem dH_playWeeping_58 : decode (xb yyH_playWeeping) 58 = .ok (.aload_n 0, 1) := by decide +kernel
theorem dH_playWeeping_59 : decode (xb yyH_playWeeping) 59 = .ok (.getfield 25, 3) := by decide +kernel
theorem dH_playWeeping_62 : decode (xb yyH_playWeeping) 62 = .ok (.iload_n 1, 1) := by decide +kernel
theorem dH_playWeeping_63 : decode (xb yyH_playWeeping) 63 = .ok (.iload_n 2, 1) := by decide +kernel
theorem dH_playWeeping_64 : decode (xb yyH_playWeeping) 64 = .ok (.iconst 0, 1) := by decide +kernel
theorem dH_playWeeping_65 : decode (xb yyH_playWeeping) 65 = .ok (.invokevirtual 192, 3) := by decide +kernel
theorem dH_playWeeping_68 : decode (xb yyH_playWeeping) 68 = .ok (.ireturn, 1) := by decide +kernel
def fH_playWeeping_b48 (k17 : Int32 → Int32 → Int32 → Int32 → xM → Option (Int32 × xM)) (v1 : Int32) (v2 : Int32) (v3 : Int32) (v4 : Int32) (m : xM) : Option (Int32 × xM) := k17 v1 v2 v3 (v4 + 1) m
def fH_playWeeping_l17  : Nat → Int32 → Int32 → Int32 → Int32 → xM → Option (Int32 × xM)
  | 0, _, _, _, _, _ => none
  | n + 1, v1, v2, v3, v4, m => (fB_many 4 m).bind fun r23 => (if r23 ≤ v4 then (fW_playOn 0 4 m v1 v2 (0 : Int32)).bind fun r65 => some (r65, m) else (fH_holdsBit v3 v4).bind fun r32 => (if r32 = 0 then fH_playWeeping_b48 (fH_playWeeping_l17 n) v1 v2 v3 v4 m else (fB_moreDamp 4 v4 (3 : Int32) m).bind fun r45 => fH_playWeeping_b48 (fH_playWeeping_l17 n) v1 v2 v3 v4 r45))
def fH_playWeeping  (v1 : Int32) (v2 : Int32) (v3 : Int32) (m : xM) : Option (Int32 × xM) := (fB_become 4 0 m).bind fun r11 => fH_playWeeping_l17 xfu v1 v2 v3 (0 : Int32) r11
set_option maxRecDepth 100000 in
set_option maxHeartbeats 4000000 in
theorem kH_playWeeping_b48 (G : xG)   (z : xM)  (k17 : Int32 → Int32 → Int32 → Int32 → xM → Option (Int32 × xM)) (hk17 : ∀ (v1 : Int32) (v2 : Int32) (v3 : Int32) (v4 : Int32) (m : xM), xR G yyH_playWeeping (emic z) 17 [(0, .ref (xa G 81)), (1, .int v1), (2, .int v2), (3, .int v3), (4, .int v4)] [] (m, z) (k17 v1 v2 v3 v4 m)) (v1 : Int32) (v2 : Int32) (v3 : Int32) (v4 : Int32) (m : xM) : xR G yyH_playWeeping (emic z) 48 [(0, .ref (xa G 81)), (1, .int v1), (2, .int v2), (3, .int v3), (4, .int v4)] [] (m, z) (fH_playWeeping_b48 k17 v1 v2 v3 v4 m) := by
  unfold fH_playWeeping_b48
  refine xR_iinc 48 4 (v4 + 1) ([(4, .int (v4 + 1)), (0, .ref (xa G 81)), (1, .int v1), (2, .int v2), (3, .int v3)]) dH_playWeeping_48 rfl rfl (by decide) rfl ?_
  refine xR_goto 51 17 dH_playWeeping_51 (by decide) ?_
  exact xR_sub [1, 2, 3, 4, 0] rfl (hk17 v1 v2 v3 (v4 + 1) m)
set_option maxRecDepth 100000 in
set_option maxHeartbeats 4000000 in
theorem kH_playWeeping_l17 (G : xG)   (z : xM)    : ∀ (n : Nat) (v1 : Int32) (v2 : Int32) (v3 : Int32) (v4 : Int32) (m : xM), xR G yyH_playWeeping (emic z) 17 [(0, .ref (xa G 81)), (1, .int v1), (2, .int v2), (3, .int v3), (4, .int v4)] [] (m, z) (fH_playWeeping_l17  n v1 v2 v3 v4 m) := by
  intro n
  induction n with
  | zero =>
    intro v1 v2 v3 v4 m
    rw [fH_playWeeping_l17]
    exact xR_none
  | succ n ih =>
    intro v1 v2 v3 v4 m
    rw [fH_playWeeping_l17]
    refine xR_il 17 4 dH_playWeeping_17 rfl ?_
    refine xR_aln 19 0 dH_playWeeping_19 rfl rfl ?_
    refine xR_getf 20 xcf6 3 81 (by decide) (by decide) rfl (v := .ref (xa G 76)) rfl fl_RX8_25 dH_playWeeping_20 ?_
    refine xR_callVi 23 cv_B_many ml_RX8_71 ⟨Nat.le_of_ble_eq_true rfl, Nat.le_of_ble_eq_true rfl⟩ xcf0 rfl 76 (by decide) (xC_brd (b := 4) (by decide)) [] rfl rfl (Nat.le_of_ble_eq_true rfl) dH_playWeeping_23 (kB_many G 4 (by decide) z m) (fun r23 => ?_)
    refine xR_icge 26 54 dH_playWeeping_26 (by decide) ?_ ?_
    · refine xR_aln 54 0 dH_playWeeping_54 rfl rfl ?_
      refine xR_getf 55 xcf6 0 81 (by decide) (by decide) rfl (v := .ref (xa G 77)) rfl fl_RX8_10 dH_playWeeping_55 ?_
      refine xR_aln 58 0 dH_playWeeping_58 rfl rfl ?_
      refine xR_getf 59 xcf6 3 81 (by decide) (by decide) rfl (v := .ref (xa G 76)) rfl fl_RX8_25 dH_playWeeping_59 ?_
      refine xR_iln 62 1 dH_playWeeping_62 rfl rfl ?_
      refine xR_iln 63 2 dH_playWeeping_63 rfl rfl ?_
      refine xR_ic 64 (0 : Int32) dH_playWeeping_64 (by decide) ?_
      refine xR_callVi 65 cv_W_playOn ml_RX8_192 ⟨Nat.le_of_ble_eq_true rfl, Nat.le_of_ble_eq_true rfl⟩ xcf5 rfl 77 (by decide) (xC_twn (t := 0) (by decide)) [.ref (xa G 76), .int v1, .int v2, .int (0 : Int32)] rfl rfl (Nat.le_of_ble_eq_true rfl) dH_playWeeping_65 (kW_playOn G 0 4 (by decide) (by decide) z m v1 v2 (0 : Int32)) (fun r65 => ?_)
      exact xR_iret 68 rfl rfl dH_playWeeping_68
    · refine xR_iln 29 3 dH_playWeeping_29 rfl rfl ?_
      refine xR_il 30 4 dH_playWeeping_30 rfl ?_
      refine xR_callSi 32 cs_H_holdsBit ml_RX8_331 ⟨Nat.le_of_ble_eq_true rfl, Nat.le_of_ble_eq_true rfl⟩ [.int v3, .int v4] rfl rfl (Nat.le_of_ble_eq_true rfl) dH_playWeeping_32 (kH_holdsBit G (m, z) v3 v4) (fun r32 => ?_)
      refine xR_ifeq 35 48 dH_playWeeping_35 (by decide) ?_ ?_
      · exact kH_playWeeping_b48 G z (fH_playWeeping_l17 n) ih v1 v2 v3 v4 m
      · refine xR_aln 38 0 dH_playWeeping_38 rfl rfl ?_
        refine xR_getf 39 xcf6 3 81 (by decide) (by decide) rfl (v := .ref (xa G 76)) rfl fl_RX8_25 dH_playWeeping_39 ?_
        refine xR_il 42 4 dH_playWeeping_42 rfl ?_
        refine xR_ic 44 (3 : Int32) dH_playWeeping_44 (by decide) ?_
        refine xR_callVvc 45 cv_B_moreDamp ml_RX8_334 ⟨Nat.le_of_ble_eq_true rfl, Nat.le_of_ble_eq_true rfl⟩ xcf0 rfl 76 (by decide) (xC_brd (b := 4) (by decide)) [.int v4, .int (3 : Int32)] rfl rfl (Nat.le_of_ble_eq_true rfl) dH_playWeeping_45 (kB_moreDamp G 4 (by decide) z m v4 (3 : Int32)) (fun r45 => ?_)
        exact kH_playWeeping_b48 G z (fH_playWeeping_l17 n) ih v1 v2 v3 v4 r45
set_option maxRecDepth 100000 in
set_option maxHeartbeats 4000000 in
theorem kH_playWeeping (G : xG)   (z : xM) (m : xM) (v1 : Int32) (v2 : Int32) (v3 : Int32) : ∀ a, fH_playWeeping  v1 v2 v3 m = some a → xCt G yyH_playWeeping [.ref (xa G 81), .int v1, .int v2, .int v3] (m, z) (some (.int a.1)) (a.2, z) := by
  refine xR_ct (em := (emic z)) rfl (Nat.le_of_ble_eq_true rfl) ?_
  show xR G yyH_playWeeping _ 0 [(0, .ref (xa G 81)), (1, .int v1), (2, .int v2), (3, .int v3)] [] _ _
  unfold fH_playWeeping
  refine xR_aln 0 0 dH_playWeeping_0 rfl rfl ?_
  refine xR_getf 1 xcf6 3 81 (by decide) (by decide) rfl (v := .ref (xa G 76)) rfl fl_RX8_25 dH_playWeeping_1 ?_
  refine xR_aln 4 0 dH_playWeeping_4 rfl rfl ?_
  refine xR_getf 5 xcf6 0 81 (by decide) (by decide) rfl (v := .ref (xa G 77)) rfl fl_RX8_10 dH_playWeeping_5 ?_
  refine xR_getf 8 xcf5 0 77 (by decide) (by decide) (xC_twn (t := 0) (by decide)) (v := .ref (xa G 72)) rfl fl_RX8_68 dH_playWeeping_8 ?_
  refine xR_callVvc 11 cv_B_become ml_RX8_185 ⟨Nat.le_of_ble_eq_true rfl, Nat.le_of_ble_eq_true rfl⟩ xcf0 rfl 76 (by decide) (xC_brd (b := 4) (by decide)) [.ref (xa G 72)] rfl rfl (Nat.le_of_ble_eq_true rfl) dH_playWeeping_11 (kB_become G 4 0 (by decide) (by decide) z m) (fun r11 => ?_)
  refine xR_ic 14 (0 : Int32) dH_playWeeping_14 (by decide) ?_
  refine xR_is 15 ([(4, .int (0 : Int32)), (0, .ref (xa G 81)), (1, .int v1), (2, .int v2), (3, .int v3)]) dH_playWeeping_15 (by decide) rfl ?_
  exact xR_sub [1, 2, 3, 4, 0] rfl (kH_playWeeping_l17 G z xfu v1 v2 v3 (0 : Int32) r11)
theorem dH_keepFraction_0 : decode (xb yyH_keepFraction) 0 = .ok (.lload_n 1, 1) := by decide +kernel
theorem dH_keepFraction_1 : decode (xb yyH_keepFraction) 1 = .ok (.lload_n 3, 1) := by decide +kernel
theorem dH_keepFraction_2 : decode (xb yyH_keepFraction) 2 = .ok (.invokestatic 355, 3) := by decide +kernel
theorem dH_keepFraction_5 : decode (xb yyH_keepFraction) 5 = .ok (.lstore 5, 2) := by decide +kernel
theorem dH_keepFraction_7 : decode (xb yyH_keepFraction) 7 = .ok (.lload 5, 2) := by decide +kernel
theorem dH_keepFraction_9 : decode (xb yyH_keepFraction) 9 = .ok (.lconst 0, 1) := by decide +kernel
theorem dH_keepFraction_10 : decode (xb yyH_keepFraction) 10 = .ok (.lcmp, 1) := by decide +kernel
theorem dH_keepFraction_11 : decode (xb yyH_keepFraction) 11 = .ok (.ifCond .le 19, 3) := by decide +kernel
theorem dH_keepFraction_14 : decode (xb yyH_keepFraction) 14 = .ok (.aload_n 0, 1) := by decide +kernel
theorem dH_keepFraction_15 : decode (xb yyH_keepFraction) 15 = .ok (.lload_n 1, 1) := by decide +kernel
theorem dH_keepFraction_16 : decode (xb yyH_keepFraction) 16 = .ok (.lload 5, 2) := by decide +kernel
theorem dH_keepFraction_18 : decode (xb yyH_keepFraction) 18 = .ok (.ldiv, 1) := by decide +kernel
theorem dH_keepFraction_19 : decode (xb yyH_keepFraction) 19 = .ok (.putfield 295, 3) := by decide +kernel
theorem dH_keepFraction_22 : decode (xb yyH_keepFraction) 22 = .ok (.aload_n 0, 1) := by decide +kernel
theorem dH_keepFraction_23 : decode (xb yyH_keepFraction) 23 = .ok (.lload_n 3, 1) := by decide +kernel
theorem dH_keepFraction_24 : decode (xb yyH_keepFraction) 24 = .ok (.lload 5, 2) := by decide +kernel
theorem dH_keepFraction_26 : decode (xb yyH_keepFraction) 26 = .ok (.ldiv, 1) := by decide +kernel
theorem dH_keepFraction_27 : decode (xb yyH_keepFraction) 27 = .ok (.putfield 64, 3) := by decide +kernel
theorem dH_keepFraction_30 : decode (xb yyH_keepFraction) 30 = .ok (.return_, 1) := by decide +kernel
def fH_keepFraction  (v1 : Int64) (v3 : Int64) (m : xM) : Option (xM) := (fH_commonDivisor v1 v3).bind fun r2 => (if (lg_cmp r2 (0 : Int64)) ≤ 0 then some m else xdl r2 (xdl r2 (some (xsel (xsel m 0 (v1 / r2)) 1 (v3 / r2)))))
set_option maxRecDepth 100000 in
set_option maxHeartbeats 4000000 in
theorem kH_keepFraction (G : xG)   (z : xM) (m : xM) (v1 : Int64) (v3 : Int64) : ∀ a, fH_keepFraction  v1 v3 m = some a → xCt G yyH_keepFraction [.ref (xa G 81), .long v1, .long v3] (m, z) (none) (a, z) := by
  refine xR_ct (em := (emvc z)) rfl (Nat.le_of_ble_eq_true rfl) ?_
  show xR G yyH_keepFraction _ 0 [(0, .ref (xa G 81)), (1, .long v1), (3, .long v3)] [] _ _
  unfold fH_keepFraction
  refine xR_lln 0 1 dH_keepFraction_0 rfl rfl ?_
  refine xR_lln 1 2 dH_keepFraction_1 rfl rfl ?_
  refine xR_callSl 2 cs_H_commonDivisor ml_RX8_355 ⟨Nat.le_of_ble_eq_true rfl, Nat.le_of_ble_eq_true rfl⟩ [.long v1, .long v3] rfl rfl (Nat.le_of_ble_eq_true rfl) dH_keepFraction_2 (kH_commonDivisor G (m, z) v1 v3) (fun r2 => ?_)
  refine xR_ls 5 ([(5, .long r2), (0, .ref (xa G 81)), (1, .long v1), (3, .long v3)]) dH_keepFraction_5 (by decide) rfl ?_
  refine xR_ll 7 0 dH_keepFraction_7 rfl ?_
  refine xR_lc 9 (0 : Int64) dH_keepFraction_9 (by decide) ?_
  refine xR_lcmp 10 dH_keepFraction_10 ?_
  refine xR_ifle 11 30 dH_keepFraction_11 (by decide) ?_ ?_
  · exact xR_vret 30 rfl rfl dH_keepFraction_30
  · refine xR_aln 14 1 dH_keepFraction_14 rfl rfl ?_
    refine xR_lln 15 2 dH_keepFraction_15 rfl rfl ?_
    refine xR_ll 16 0 dH_keepFraction_16 rfl ?_
    refine xR_dl (fun hd18 => ?_)
    refine xR_ldiv 18 dH_keepFraction_18 hd18 ?_
    refine xR_putf 19 xcf6 11 81 (by decide) (by decide) rfl rfl rfl rfl (Nat.le_of_ble_eq_true rfl) ((xsel m 0 (v1 / r2)), z) (xW_lng (i := 0) rfl) fl_RX8_295 dH_keepFraction_19 ?_
    refine xR_aln 22 1 dH_keepFraction_22 rfl rfl ?_
    refine xR_lln 23 3 dH_keepFraction_23 rfl rfl ?_
    refine xR_ll 24 0 dH_keepFraction_24 rfl ?_
    refine xR_dl (fun hd26 => ?_)
    refine xR_ldiv 26 dH_keepFraction_26 hd26 ?_
    refine xR_putf 27 xcf6 12 81 (by decide) (by decide) rfl rfl rfl rfl (Nat.le_of_ble_eq_true rfl) ((xsel (xsel m 0 (v1 / r2)) 1 (v3 / r2)), z) (xW_lng (i := 1) rfl) fl_RX8_64 dH_keepFraction_27 ?_
    exact xR_vret 30 rfl rfl dH_keepFraction_30
theorem dH_weeps_0 : decode (xb yyH_weeps) 0 = .ok (.aload_n 0, 1) := by decide +kernel
theorem dH_weeps_1 : decode (xb yyH_weeps) 1 = .ok (.getfield 10, 3) := by decide +kernel
theorem dH_weeps_4 : decode (xb yyH_weeps) 4 = .ok (.iload_n 1, 1) := by decide +kernel
theorem dH_weeps_5 : decode (xb yyH_weeps) 5 = .ok (.invokevirtual 151, 3) := by decide +kernel
theorem dH_weeps_8 : decode (xb yyH_weeps) 8 = .ok (.ifCond .eq 20, 3) := by decide +kernel
theorem dH_weeps_11 : decode (xb yyH_weeps) 11 = .ok (.iload_n 2, 1) := by decide +kernel
theorem dH_weeps_12 : decode (xb yyH_weeps) 12 = .ok (.invokestatic 176, 3) := by decide +kernel
theorem dH_weeps_15 : decode (xb yyH_weeps) 15 = .ok (.ifCond .eq 13, 3) := by decide +kernel
theorem dH_weeps_18 : decode (xb yyH_weeps) 18 = .ok (.iload_n 3, 1) := by decide +kernel
theorem dH_weeps_19 : decode (xb yyH_weeps) 19 = .ok (.iconst 0, 1) := by decide +kernel
theorem dH_weeps_20 : decode (xb yyH_weeps) 20 = .ok (.bipush 10, 2) := by decide +kernel
theorem dH_weeps_22 : decode (xb yyH_weeps) 22 = .ok (.invokestatic 78, 3) := by decide +kernel
theorem dH_weeps_25 : decode (xb yyH_weeps) 25 = .ok (.ifCond .ne 8, 3) := by decide +kernel
theorem dH_weeps_28 : decode (xb yyH_weeps) 28 = .ok (.aload_n 0, 1) := by decide +kernel
theorem dH_weeps_29 : decode (xb yyH_weeps) 29 = .ok (.invokevirtual 82, 3) := by decide +kernel
theorem dH_weeps_32 : decode (xb yyH_weeps) 32 = .ok (.ireturn, 1) := by decide +kernel
theorem dH_weeps_33 : decode (xb yyH_weeps) 33 = .ok (.aload_n 0, 1) := by decide +kernel
theorem dH_weeps_34 : decode (xb yyH_weeps) 34 = .ok (.getfield 10, 3) := by decide +kernel
theorem dH_weeps_37 : decode (xb yyH_weeps) 37 = .ok (.getfield 68, 3) := by decide +kernel
theorem dH_weeps_40 : decode (xb yyH_weeps) 40 = .ok (.iload_n 1, 1) := by decide +kernel
theorem dH_weeps_41 : decode (xb yyH_weeps) 41 = .ok (.invokevirtual 200, 3) := by decide +kernel
theorem dH_weeps_44 : decode (xb yyH_weeps) 44 = .ok (.istore 4, 2) := by decide +kernel
theorem dH_weeps_46 : decode (xb yyH_weeps) 46 = .ok (.lconst 0, 1) := by decide +kernel
theorem dH_weeps_47 : decode (xb yyH_weeps) 47 = .ok (.lstore 5, 2) := by decide +kernel
theorem dH_weeps_49 : decode (xb yyH_weeps) 49 = .ok (.iconst 0, 1) := by decide +kernel
theorem dH_weeps_50 : decode (xb yyH_weeps) 50 = .ok (.istore 7, 2) := by decide +kernel
theorem dH_weeps_52 : decode (xb yyH_weeps) 52 = .ok (.iload 7, 2) := by decide +kernel
theorem dH_weeps_54 : decode (xb yyH_weeps) 54 = .ok (.iload 4, 2) := by decide +kernel
theorem dH_weeps_56 : decode (xb yyH_weeps) 56 = .ok (.if_icmp .gt 69, 3) := by decide +kernel
theorem dH_weeps_59 : decode (xb yyH_weeps) 59 = .ok (.iload 7, 2) := by decide +kernel
theorem dH_weeps_61 : decode (xb yyH_weeps) 61 = .ok (.iload 4, 2) := by decide +kernel
theorem dH_weeps_63 : decode (xb yyH_weeps) 63 = .ok (.invokestatic 208, 3) := by decide +kernel
theorem dH_weeps_66 : decode (xb yyH_weeps) 66 = .ok (.ifCond .eq 53, 3) := by decide +kernel
theorem dH_weeps_69 : decode (xb yyH_weeps) 69 = .ok (.iload 7, 2) := by decide +kernel
theorem dH_weeps_71 : decode (xb yyH_weeps) 71 = .ok (.invokestatic 203, 3) := by decide +kernel
theorem dH_weeps_74 : decode (xb yyH_weeps) 74 = .ok (.istore 8, 2) := by decide +kernel
theorem dH_weeps_76 : decode (xb yyH_weeps) 76 = .ok (.iload_n 3, 1) := by decide +kernel
theorem dH_weeps_77 : decode (xb yyH_weeps) 77 = .ok (.i2l, 1) := by decide +kernel
theorem dH_weeps_78 : decode (xb yyH_weeps) 78 = .ok (.iload 8, 2) := by decide +kernel
theorem dH_weeps_80 : decode (xb yyH_weeps) 80 = .ok (.invokestatic 269, 3) := by decide +kernel
theorem dH_weeps_83 : decode (xb yyH_weeps) 83 = .ok (.bipush 10, 2) := by decide +kernel
theorem dH_weeps_85 : decode (xb yyH_weeps) 85 = .ok (.iload_n 3, 1) := by decide +kernel
theorem dH_weeps_86 : decode (xb yyH_weeps) 86 = .ok (.isub, 1) := by decide +kernel
theorem dH_weeps_87 : decode (xb yyH_weeps) 87 = .ok (.i2l, 1) := by decide +kernel
theorem dH_weeps_88 : decode (xb yyH_weeps) 88 = .ok (.iload 4, 2) := by decide +kernel
theorem dH_weeps_90 : decode (xb yyH_weeps) 90 = .ok (.invokestatic 203, 3) := by decide +kernel
theorem dH_weeps_93 : decode (xb yyH_weeps) 93 = .ok (.iload 8, 2) := by decide +kernel
theorem dH_weeps_95 : decode (xb yyH_weeps) 95 = .ok (.isub, 1) := by decide +kernel
theorem dH_weeps_96 : decode (xb yyH_weeps) 96 = .ok (.invokestatic 269, 3) := by decide +kernel
theorem dH_weeps_99 : decode (xb yyH_weeps) 99 = .ok (.lmul, 1) := by decide +kernel
theorem dH_weeps_100 : decode (xb yyH_weeps) 100 = .ok (.lstore 9, 2) := by decide +kernel
theorem dH_weeps_102 : decode (xb yyH_weeps) 102 = .ok (.lload 5, 2) := by decide +kernel
theorem dH_weeps_104 : decode (xb yyH_weeps) 104 = .ok (.lload 9, 2) := by decide +kernel
theorem dH_weeps_106 : decode (xb yyH_weeps) 106 = .ok (.aload_n 0, 1) := by decide +kernel
theorem dH_weeps_107 : decode (xb yyH_weeps) 107 = .ok (.iload_n 1, 1) := by decide +kernel
theorem dH_weeps_108 : decode (xb yyH_weeps) 108 = .ok (.iload_n 2, 1) := by decide +kernel
theorem dH_weeps_109 : decode (xb yyH_weeps) 109 = .ok (.iload 7, 2) := by decide +kernel
theorem dH_weeps_111 : decode (xb yyH_weeps) 111 = .ok (.invokevirtual 273, 3) := by decide +kernel
theorem dH_weeps_114 : decode (xb yyH_weeps) 114 = .ok (.i2l, 1) := by decide +kernel
theorem dH_weeps_115 : decode (xb yyH_weeps) 115 = .ok (.lmul, 1) := by decide +kernel
theorem dH_weeps_116 : decode (xb yyH_weeps) 116 = .ok (.ladd, 1) := by decide +kernel
theorem dH_weeps_117 : decode (xb yyH_weeps) 117 = .ok (.lstore 5, 2) := by decide +kernel
theorem dH_weeps_119 : decode (xb yyH_weeps) 119 = .ok (.iinc 7 1, 3) := by decide +kernel
theorem dH_weeps_122 : decode (xb yyH_weeps) 122 = .ok (.goto (-70), 3) := by decide +kernel
theorem dH_weeps_125 : decode (xb yyH_weeps) 125 = .ok (.aload_n 0, 1) := by decide +kernel
theorem dH_weeps_126 : decode (xb yyH_weeps) 126 = .ok (.lload 5, 2) := by decide +kernel
theorem dH_weeps_128 : decode (xb yyH_weeps) 128 = .ok (.ldc2_w 276, 3) := by decide +kernel
theorem dH_weeps_131 : decode (xb yyH_weeps) 131 = .ok (.iload 4, 2) := by decide +kernel
theorem dH_weeps_133 : decode (xb yyH_weeps) 133 = .ok (.invokestatic 203, 3) := by decide +kernel
theorem dH_weeps_136 : decode (xb yyH_weeps) 136 = .ok (.invokestatic 269, 3) := by decide +kernel
theorem dH_weeps_139 : decode (xb yyH_weeps) 139 = .ok (.invokevirtual 278, 3) := by decide +kernel
theorem dH_weeps_142 : decode (xb yyH_weeps) 142 = .ok (.iconst 1, 1) := by decide +kernel
theorem dH_weeps_143 : decode (xb yyH_weeps) 143 = .ok (.ireturn, 1) := by decide +kernel
def fH_weeps_b119 (k52 : Int32 → Int32 → Int32 → Int32 → Int64 → Int32 → xM → Option (Int32 × xM)) (v1 : Int32) (v2 : Int32) (v3 : Int32) (v4 : Int32) (v5 : Int64) (v7 : Int32) (m : xM) : Option (Int32 × xM) := k52 v1 v2 v3 v4 v5 (v7 + 1) m
def fH_weeps_l52  : Nat → Int32 → Int32 → Int32 → Int32 → Int64 → Int32 → xM → Option (Int32 × xM)
  | 0, _, _, _, _, _, _, _ => none
  | n + 1, v1, v2, v3, v4, v5, v7, m => (if v4 < v7 then (fJ_bitCount v4).bind fun r133 => (fH_power (10 : Int64) r133).bind fun r136 => (fH_keepFraction v5 r136 m).bind fun r139 => some ((1 : Int32), r139) else (fH_isPartOf v7 v4).bind fun r63 => (if r63 = 0 then fH_weeps_b119 (fH_weeps_l52 n) v1 v2 v3 v4 v5 v7 m else (fJ_bitCount v7).bind fun r71 => (fH_power ((v3).toInt64) r71).bind fun r80 => (fJ_bitCount v4).bind fun r90 => (fH_power ((((10 : Int32) - v3)).toInt64) (r90 - r71)).bind fun r96 => (fH_playWeeping v1 v2 v7 m).bind fun r111 => fH_weeps_b119 (fH_weeps_l52 n) v1 v2 v3 v4 (v5 + ((r80 * r96) * ((r111.1).toInt64))) v7 r111.2))
def fH_weeps  (v1 : Int32) (v2 : Int32) (v3 : Int32) (m : xM) : Option (Int32 × xM) := (fW_hasInstrument 0 m v1).bind fun r5 => (if r5 = 0 then (fH_bad m).bind fun r29 => some (r29.1, r29.2) else (fH_isString v2).bind fun r12 => (if r12 = 0 then (fH_bad m).bind fun r29 => some (r29.1, r29.2) else (fH_within v3 (0 : Int32) (10 : Int32)).bind fun r22 => (if r22 = 0 then (fH_bad m).bind fun r29 => some (r29.1, r29.2) else (fB_maskIn 0 m v1).bind fun r41 => fH_weeps_l52 xfu v1 v2 v3 r41 (0 : Int64) (0 : Int32) m)))
set_option maxRecDepth 100000 in
set_option maxHeartbeats 4000000 in
theorem kH_weeps_b119 (G : xG)   (z : xM)  (k52 : Int32 → Int32 → Int32 → Int32 → Int64 → Int32 → xM → Option (Int32 × xM)) (hk52 : ∀ (v1 : Int32) (v2 : Int32) (v3 : Int32) (v4 : Int32) (v5 : Int64) (v7 : Int32) (m : xM), xR G yyH_weeps (emic z) 52 [(0, .ref (xa G 81)), (1, .int v1), (2, .int v2), (3, .int v3), (4, .int v4), (5, .long v5), (7, .int v7)] [] (m, z) (k52 v1 v2 v3 v4 v5 v7 m)) (v1 : Int32) (v2 : Int32) (v3 : Int32) (v4 : Int32) (v5 : Int64) (v7 : Int32) (m : xM) : xR G yyH_weeps (emic z) 119 [(0, .ref (xa G 81)), (1, .int v1), (2, .int v2), (3, .int v3), (4, .int v4), (5, .long v5), (7, .int v7)] [] (m, z) (fH_weeps_b119 k52 v1 v2 v3 v4 v5 v7 m) := by
  unfold fH_weeps_b119
  refine xR_iinc 119 6 (v7 + 1) ([(7, .int (v7 + 1)), (0, .ref (xa G 81)), (1, .int v1), (2, .int v2), (3, .int v3), (4, .int v4), (5, .long v5)]) dH_weeps_119 rfl rfl (by decide) rfl ?_
  refine xR_goto 122 52 dH_weeps_122 (by decide) ?_
  exact xR_sub [1, 2, 3, 4, 5, 6, 0] rfl (hk52 v1 v2 v3 v4 v5 (v7 + 1) m)
set_option maxRecDepth 100000 in
set_option maxHeartbeats 4000000 in
theorem kH_weeps_l52 (G : xG)   (z : xM)    : ∀ (n : Nat) (v1 : Int32) (v2 : Int32) (v3 : Int32) (v4 : Int32) (v5 : Int64) (v7 : Int32) (m : xM), xR G yyH_weeps (emic z) 52 [(0, .ref (xa G 81)), (1, .int v1), (2, .int v2), (3, .int v3), (4, .int v4), (5, .long v5), (7, .int v7)] [] (m, z) (fH_weeps_l52  n v1 v2 v3 v4 v5 v7 m) := by
  intro n
  induction n with
  | zero =>
    intro v1 v2 v3 v4 v5 v7 m
    rw [fH_weeps_l52]
    exact xR_none
  | succ n ih =>
    intro v1 v2 v3 v4 v5 v7 m
    rw [fH_weeps_l52]
    refine xR_il 52 6 dH_weeps_52 rfl ?_
    refine xR_il 54 4 dH_weeps_54 rfl ?_
    refine xR_icgt 56 125 dH_weeps_56 (by decide) ?_ ?_
    · refine xR_aln 125 0 dH_weeps_125 rfl rfl ?_
      refine xR_ll 126 5 dH_weeps_126 rfl ?_
      refine xR_ldc2 128 cl_RX8_276 dH_weeps_128 ?_
      refine xR_il 131 4 dH_weeps_131 rfl ?_
      refine xR_callSi 133 cs_J_bitCount ml_RX8_203 ⟨Nat.le_of_ble_eq_true rfl, Nat.le_of_ble_eq_true rfl⟩ [.int v4] rfl rfl (Nat.le_of_ble_eq_true rfl) dH_weeps_133 (kJ_bitCount G (m, z) v4) (fun r133 => ?_)
      refine xR_callSl 136 cs_H_power ml_RX8_269 ⟨Nat.le_of_ble_eq_true rfl, Nat.le_of_ble_eq_true rfl⟩ [.long (10 : Int64), .int r133] rfl rfl (Nat.le_of_ble_eq_true rfl) dH_weeps_136 (kH_power G (m, z) (10 : Int64) r133) (fun r136 => ?_)
      refine xR_callVvc 139 cv_H_keepFraction ml_RX8_278 ⟨Nat.le_of_ble_eq_true rfl, Nat.le_of_ble_eq_true rfl⟩ xcf6 rfl 81 (by decide) rfl [.long v5, .long r136] rfl rfl (Nat.le_of_ble_eq_true rfl) dH_weeps_139 (kH_keepFraction G z m v5 r136) (fun r139 => ?_)
      refine xR_ic 142 (1 : Int32) dH_weeps_142 (by decide) ?_
      exact xR_iret 143 rfl rfl dH_weeps_143
    · refine xR_il 59 6 dH_weeps_59 rfl ?_
      refine xR_il 61 4 dH_weeps_61 rfl ?_
      refine xR_callSi 63 cs_H_isPartOf ml_RX8_208 ⟨Nat.le_of_ble_eq_true rfl, Nat.le_of_ble_eq_true rfl⟩ [.int v7, .int v4] rfl rfl (Nat.le_of_ble_eq_true rfl) dH_weeps_63 (kH_isPartOf G (m, z) v7 v4) (fun r63 => ?_)
      refine xR_ifeq 66 119 dH_weeps_66 (by decide) ?_ ?_
      · exact kH_weeps_b119 G z (fH_weeps_l52 n) ih v1 v2 v3 v4 v5 v7 m
      · refine xR_il 69 6 dH_weeps_69 rfl ?_
        refine xR_callSi 71 cs_J_bitCount ml_RX8_203 ⟨Nat.le_of_ble_eq_true rfl, Nat.le_of_ble_eq_true rfl⟩ [.int v7] rfl rfl (Nat.le_of_ble_eq_true rfl) dH_weeps_71 (kJ_bitCount G (m, z) v7) (fun r71 => ?_)
        refine xR_is 74 ([(8, .int r71), (0, .ref (xa G 81)), (1, .int v1), (2, .int v2), (3, .int v3), (4, .int v4), (5, .long v5), (7, .int v7)]) dH_weeps_74 (by decide) rfl ?_
        refine xR_iln 76 4 dH_weeps_76 rfl rfl ?_
        refine xR_i2l 77 dH_weeps_77 ?_
        refine xR_il 78 0 dH_weeps_78 rfl ?_
        refine xR_callSl 80 cs_H_power ml_RX8_269 ⟨Nat.le_of_ble_eq_true rfl, Nat.le_of_ble_eq_true rfl⟩ [.long ((v3).toInt64), .int r71] rfl rfl (Nat.le_of_ble_eq_true rfl) dH_weeps_80 (kH_power G (m, z) ((v3).toInt64) r71) (fun r80 => ?_)
        refine xR_bp 83 (10 : Int32) dH_weeps_83 (by decide) ?_
        refine xR_iln 85 4 dH_weeps_85 rfl rfl ?_
        refine xR_isub 86 dH_weeps_86 ?_
        refine xR_i2l 87 dH_weeps_87 ?_
        refine xR_il 88 5 dH_weeps_88 rfl ?_
        refine xR_callSi 90 cs_J_bitCount ml_RX8_203 ⟨Nat.le_of_ble_eq_true rfl, Nat.le_of_ble_eq_true rfl⟩ [.int v4] rfl rfl (Nat.le_of_ble_eq_true rfl) dH_weeps_90 (kJ_bitCount G (m, z) v4) (fun r90 => ?_)
        refine xR_il 93 0 dH_weeps_93 rfl ?_
        refine xR_isub 95 dH_weeps_95 ?_
        refine xR_callSl 96 cs_H_power ml_RX8_269 ⟨Nat.le_of_ble_eq_true rfl, Nat.le_of_ble_eq_true rfl⟩ [.long ((((10 : Int32) - v3)).toInt64), .int (r90 - r71)] rfl rfl (Nat.le_of_ble_eq_true rfl) dH_weeps_96 (kH_power G (m, z) ((((10 : Int32) - v3)).toInt64) (r90 - r71)) (fun r96 => ?_)
        refine xR_lmul 99 dH_weeps_99 ?_
        refine xR_ls 100 ([(9, .long (r80 * r96)), (8, .int r71), (0, .ref (xa G 81)), (1, .int v1), (2, .int v2), (3, .int v3), (4, .int v4), (5, .long v5), (7, .int v7)]) dH_weeps_100 (by decide) rfl ?_
        refine xR_ll 102 7 dH_weeps_102 rfl ?_
        refine xR_ll 104 0 dH_weeps_104 rfl ?_
        refine xR_aln 106 2 dH_weeps_106 rfl rfl ?_
        refine xR_iln 107 3 dH_weeps_107 rfl rfl ?_
        refine xR_iln 108 4 dH_weeps_108 rfl rfl ?_
        refine xR_il 109 8 dH_weeps_109 rfl ?_
        refine xR_callVic 111 cv_H_playWeeping ml_RX8_273 ⟨Nat.le_of_ble_eq_true rfl, Nat.le_of_ble_eq_true rfl⟩ xcf6 rfl 81 (by decide) rfl [.int v1, .int v2, .int v7] rfl rfl (Nat.le_of_ble_eq_true rfl) dH_weeps_111 (kH_playWeeping G z m v1 v2 v7) (fun r111 => ?_)
        refine xR_i2l 114 dH_weeps_114 ?_
        refine xR_lmul 115 dH_weeps_115 ?_
        refine xR_ladd 116 dH_weeps_116 ?_
        refine xR_ls 117 ([(5, .long (v5 + ((r80 * r96) * ((r111.1).toInt64)))), (9, .long (r80 * r96)), (8, .int r71), (0, .ref (xa G 81)), (1, .int v1), (2, .int v2), (3, .int v3), (4, .int v4), (7, .int v7)]) dH_weeps_117 (by decide) rfl ?_
        exact xR_sub [3, 4, 5, 6, 7, 0, 8] rfl (kH_weeps_b119 G z (fH_weeps_l52 n) ih v1 v2 v3 v4 (v5 + ((r80 * r96) * ((r111.1).toInt64))) v7 r111.2)
set_option maxRecDepth 100000 in
set_option maxHeartbeats 4000000 in
theorem kH_weeps (G : xG)   (z : xM) (m : xM) (v1 : Int32) (v2 : Int32) (v3 : Int32) : ∀ a, fH_weeps  v1 v2 v3 m = some a → xCt G yyH_weeps [.ref (xa G 81), .int v1, .int v2, .int v3] (m, z) (some (.int a.1)) (a.2, z) := by
  refine xR_ct (em := (emic z)) rfl (Nat.le_of_ble_eq_true rfl) ?_
  show xR G yyH_weeps _ 0 [(0, .ref (xa G 81)), (1, .int v1), (2, .int v2), (3, .int v3)] [] _ _
  unfold fH_weeps
  refine xR_aln 0 0 dH_weeps_0 rfl rfl ?_
  refine xR_getf 1 xcf6 0 81 (by decide) (by decide) rfl (v := .ref (xa G 77)) rfl fl_RX8_10 dH_weeps_1 ?_
  refine xR_iln 4 1 dH_weeps_4 rfl rfl ?_
  refine xR_callVi 5 cv_W_hasInstrument ml_RX8_151 ⟨Nat.le_of_ble_eq_true rfl, Nat.le_of_ble_eq_true rfl⟩ xcf5 rfl 77 (by decide) (xC_twn (t := 0) (by decide)) [.int v1] rfl rfl (Nat.le_of_ble_eq_true rfl) dH_weeps_5 (kW_hasInstrument G 0 (by decide) z m v1) (fun r5 => ?_)
  refine xR_ifeq 8 28 dH_weeps_8 (by decide) ?_ ?_
  · refine xR_aln 28 0 dH_weeps_28 rfl rfl ?_
    refine xR_callVic 29 cv_H_bad ml_RX8_82 ⟨Nat.le_of_ble_eq_true rfl, Nat.le_of_ble_eq_true rfl⟩ xcf6 rfl 81 (by decide) rfl [] rfl rfl (Nat.le_of_ble_eq_true rfl) dH_weeps_29 (kH_bad G z m) (fun r29 => ?_)
    exact xR_iret 32 rfl rfl dH_weeps_32
  · refine xR_iln 11 2 dH_weeps_11 rfl rfl ?_
    refine xR_callSi 12 cs_H_isString ml_RX8_176 ⟨Nat.le_of_ble_eq_true rfl, Nat.le_of_ble_eq_true rfl⟩ [.int v2] rfl rfl (Nat.le_of_ble_eq_true rfl) dH_weeps_12 (kH_isString G (m, z) v2) (fun r12 => ?_)
    refine xR_ifeq 15 28 dH_weeps_15 (by decide) ?_ ?_
    · refine xR_aln 28 0 dH_weeps_28 rfl rfl ?_
      refine xR_callVic 29 cv_H_bad ml_RX8_82 ⟨Nat.le_of_ble_eq_true rfl, Nat.le_of_ble_eq_true rfl⟩ xcf6 rfl 81 (by decide) rfl [] rfl rfl (Nat.le_of_ble_eq_true rfl) dH_weeps_29 (kH_bad G z m) (fun r29 => ?_)
      exact xR_iret 32 rfl rfl dH_weeps_32
    · refine xR_iln 18 3 dH_weeps_18 rfl rfl ?_
      refine xR_ic 19 (0 : Int32) dH_weeps_19 (by decide) ?_
      refine xR_bp 20 (10 : Int32) dH_weeps_20 (by decide) ?_
      refine xR_callSi 22 cs_H_within ml_RX8_78 ⟨Nat.le_of_ble_eq_true rfl, Nat.le_of_ble_eq_true rfl⟩ [.int v3, .int (0 : Int32), .int (10 : Int32)] rfl rfl (Nat.le_of_ble_eq_true rfl) dH_weeps_22 (kH_within G (m, z) v3 (0 : Int32) (10 : Int32)) (fun r22 => ?_)
      refine xR_ifne 25 33 dH_weeps_25 (by decide) ?_ ?_
      · refine xR_aln 33 0 dH_weeps_33 rfl rfl ?_
        refine xR_getf 34 xcf6 0 81 (by decide) (by decide) rfl (v := .ref (xa G 77)) rfl fl_RX8_10 dH_weeps_34 ?_
        refine xR_getf 37 xcf5 0 77 (by decide) (by decide) (xC_twn (t := 0) (by decide)) (v := .ref (xa G 72)) rfl fl_RX8_68 dH_weeps_37 ?_
        refine xR_iln 40 1 dH_weeps_40 rfl rfl ?_
        refine xR_callVi 41 cv_B_maskIn ml_RX8_200 ⟨Nat.le_of_ble_eq_true rfl, Nat.le_of_ble_eq_true rfl⟩ xcf0 rfl 72 (by decide) (xC_brd (b := 0) (by decide)) [.int v1] rfl rfl (Nat.le_of_ble_eq_true rfl) dH_weeps_41 (kB_maskIn G 0 (by decide) z m v1) (fun r41 => ?_)
        refine xR_is 44 ([(4, .int r41), (0, .ref (xa G 81)), (1, .int v1), (2, .int v2), (3, .int v3)]) dH_weeps_44 (by decide) rfl ?_
        refine xR_lc 46 (0 : Int64) dH_weeps_46 (by decide) ?_
        refine xR_ls 47 ([(5, .long (0 : Int64)), (4, .int r41), (0, .ref (xa G 81)), (1, .int v1), (2, .int v2), (3, .int v3)]) dH_weeps_47 (by decide) rfl ?_
        refine xR_ic 49 (0 : Int32) dH_weeps_49 (by decide) ?_
        refine xR_is 50 ([(7, .int (0 : Int32)), (5, .long (0 : Int64)), (4, .int r41), (0, .ref (xa G 81)), (1, .int v1), (2, .int v2), (3, .int v3)]) dH_weeps_50 (by decide) rfl ?_
        exact xR_sub [3, 4, 5, 6, 2, 1, 0] rfl (kH_weeps_l52 G z xfu v1 v2 v3 r41 (0 : Int64) (0 : Int32) m)
      · refine xR_aln 28 0 dH_weeps_28 rfl rfl ?_
        refine xR_callVic 29 cv_H_bad ml_RX8_82 ⟨Nat.le_of_ble_eq_true rfl, Nat.le_of_ble_eq_true rfl⟩ xcf6 rfl 81 (by decide) rfl [] rfl rfl (Nat.le_of_ble_eq_true rfl) dH_weeps_29 (kH_bad G z m) (fun r29 => ?_)
        exact xR_iret 32 rfl rfl dH_weeps_32
theorem dH_generations_0 : decode (xb yyH_generations) 0 = .ok (.iload_n 1, 1) := by decide +kernel
theorem dH_generations_1 : decode (xb yyH_generations) 1 = .ok (.iconst 0, 1) := by decide +kernel
theorem dH_generations_2 : decode (xb yyH_generations) 2 = .ok (.ldc_w 282, 3) := by decide +kernel
theorem dH_generations_5 : decode (xb yyH_generations) 5 = .ok (.invokestatic 78, 3) := by decide +kernel
theorem dH_generations_8 : decode (xb yyH_generations) 8 = .ok (.ifCond .eq 13, 3) := by decide +kernel
theorem dH_generations_11 : decode (xb yyH_generations) 11 = .ok (.iload_n 2, 1) := by decide +kernel
theorem dH_generations_12 : decode (xb yyH_generations) 12 = .ok (.iconst 0, 1) := by decide +kernel
theorem dH_generations_13 : decode (xb yyH_generations) 13 = .ok (.bipush 60, 2) := by decide +kernel
theorem dH_generations_15 : decode (xb yyH_generations) 15 = .ok (.invokestatic 78, 3) := by decide +kernel
theorem dH_generations_18 : decode (xb yyH_generations) 18 = .ok (.ifCond .ne 8, 3) := by decide +kernel
theorem dH_generations_21 : decode (xb yyH_generations) 21 = .ok (.aload_n 0, 1) := by decide +kernel
theorem dH_generations_22 : decode (xb yyH_generations) 22 = .ok (.invokevirtual 82, 3) := by decide +kernel
theorem dH_generations_25 : decode (xb yyH_generations) 25 = .ok (.ireturn, 1) := by decide +kernel
theorem dH_generations_26 : decode (xb yyH_generations) 26 = .ok (.aload_n 0, 1) := by decide +kernel
theorem dH_generations_27 : decode (xb yyH_generations) 27 = .ok (.getfield 25, 3) := by decide +kernel
theorem dH_generations_30 : decode (xb yyH_generations) 30 = .ok (.aload_n 0, 1) := by decide +kernel
theorem dH_generations_31 : decode (xb yyH_generations) 31 = .ok (.getfield 10, 3) := by decide +kernel
theorem dH_generations_34 : decode (xb yyH_generations) 34 = .ok (.getfield 68, 3) := by decide +kernel
theorem dH_generations_37 : decode (xb yyH_generations) 37 = .ok (.invokevirtual 185, 3) := by decide +kernel
theorem dH_generations_40 : decode (xb yyH_generations) 40 = .ok (.iload_n 1, 1) := by decide +kernel
theorem dH_generations_41 : decode (xb yyH_generations) 41 = .ok (.i2l, 1) := by decide +kernel
theorem dH_generations_42 : decode (xb yyH_generations) 42 = .ok (.lstore_n 3, 1) := by decide +kernel
theorem dH_generations_43 : decode (xb yyH_generations) 43 = .ok (.iconst 0, 1) := by decide +kernel
theorem dH_generations_44 : decode (xb yyH_generations) 44 = .ok (.istore 5, 2) := by decide +kernel
theorem dH_generations_46 : decode (xb yyH_generations) 46 = .ok (.iconst 0, 1) := by decide +kernel
theorem dH_generations_47 : decode (xb yyH_generations) 47 = .ok (.istore 6, 2) := by decide +kernel
theorem dH_generations_49 : decode (xb yyH_generations) 49 = .ok (.iload 6, 2) := by decide +kernel
theorem dH_generations_51 : decode (xb yyH_generations) 51 = .ok (.iload_n 2, 1) := by decide +kernel
theorem dH_generations_52 : decode (xb yyH_generations) 52 = .ok (.if_icmp .ge 94, 3) := by decide +kernel
theorem dH_generations_55 : decode (xb yyH_generations) 55 = .ok (.lload_n 3, 1) := by decide +kernel
theorem dH_generations_56 : decode (xb yyH_generations) 56 = .ok (.ldc2_w 283, 3) := by decide +kernel
theorem dH_generations_59 : decode (xb yyH_generations) 59 = .ok (.lmul, 1) := by decide +kernel
theorem dH_generations_60 : decode (xb yyH_generations) 60 = .ok (.ldc2_w 285, 3) := by decide +kernel
theorem dH_generations_63 : decode (xb yyH_generations) 63 = .ok (.ladd, 1) := by decide +kernel
theorem dH_generations_64 : decode (xb yyH_generations) 64 = .ok (.ldc2_w 287, 3) := by decide +kernel
theorem dH_generations_67 : decode (xb yyH_generations) 67 = .ok (.lrem, 1) := by decide +kernel
theorem dH_generations_68 : decode (xb yyH_generations) 68 = .ok (.lstore_n 3, 1) := by decide +kernel
theorem dH_generations_69 : decode (xb yyH_generations) 69 = .ok (.lload_n 3, 1) := by decide +kernel
theorem dH_generations_70 : decode (xb yyH_generations) 70 = .ok (.ldc2_w 289, 3) := by decide +kernel
theorem dH_generations_73 : decode (xb yyH_generations) 73 = .ok (.ldiv, 1) := by decide +kernel
theorem dH_generations_74 : decode (xb yyH_generations) 74 = .ok (.ldc2_w 291, 3) := by decide +kernel
theorem dH_generations_77 : decode (xb yyH_generations) 77 = .ok (.lrem, 1) := by decide +kernel
theorem dH_generations_78 : decode (xb yyH_generations) 78 = .ok (.l2i, 1) := by decide +kernel
theorem dH_generations_79 : decode (xb yyH_generations) 79 = .ok (.istore 7, 2) := by decide +kernel
theorem dH_generations_81 : decode (xb yyH_generations) 81 = .ok (.lload_n 3, 1) := by decide +kernel
theorem dH_generations_82 : decode (xb yyH_generations) 82 = .ok (.ldc2_w 293, 3) := by decide +kernel
theorem dH_generations_85 : decode (xb yyH_generations) 85 = .ok (.ldiv, 1) := by decide +kernel
theorem dH_generations_86 : decode (xb yyH_generations) 86 = .ok (.ldc2_w 291, 3) := by decide +kernel
theorem dH_generations_89 : decode (xb yyH_generations) 89 = .ok (.lrem, 1) := by decide +kernel
theorem dH_generations_90 : decode (xb yyH_generations) 90 = .ok (.l2i, 1) := by decide +kernel
theorem dH_generations_91 : decode (xb yyH_generations) 91 = .ok (.istore 8, 2) := by decide +kernel
theorem dH_generations_93 : decode (xb yyH_generations) 93 = .ok (.aload_n 0, 1) := by decide +kernel
theorem dH_generations_94 : decode (xb yyH_generations) 94 = .ok (.getfield 10, 3) := by decide +kernel
theorem dH_generations_97 : decode (xb yyH_generations) 97 = .ok (.iload 7, 2) := by decide +kernel
theorem dH_generations_99 : decode (xb yyH_generations) 99 = .ok (.invokevirtual 151, 3) := by decide +kernel
theorem dH_generations_102 : decode (xb yyH_generations) 102 = .ok (.ifCond .eq 24, 3) := by decide +kernel
theorem dH_generations_105 : decode (xb yyH_generations) 105 = .ok (.iload 5, 2) := by decide +kernel
theorem dH_generations_107 : decode (xb yyH_generations) 107 = .ok (.aload_n 0, 1) := by decide +kernel
theorem dH_generations_108 : decode (xb yyH_generations) 108 = .ok (.getfield 10, 3) := by decide +kernel
theorem dH_generations_111 : decode (xb yyH_generations) 111 = .ok (.aload_n 0, 1) := by decide +kernel
theorem dH_generations_112 : decode (xb yyH_generations) 112 = .ok (.getfield 25, 3) := by decide +kernel
theorem dH_generations_115 : decode (xb yyH_generations) 115 = .ok (.iload 7, 2) := by decide +kernel
theorem dH_generations_117 : decode (xb yyH_generations) 117 = .ok (.iload 8, 2) := by decide +kernel
theorem dH_generations_119 : decode (xb yyH_generations) 119 = .ok (.iconst 0, 1) := by decide +kernel
theorem dH_generations_120 : decode (xb yyH_generations) 120 = .ok (.invokevirtual 192, 3) := by decide +kernel
theorem dH_generations_123 : decode (xb yyH_generations) 123 = .ok (.iadd, 1) := by decide +kernel
theorem dH_generations_124 : decode (xb yyH_generations) 124 = .ok (.istore 5, 2) := by decide +kernel
theorem dH_generations_126 : decode (xb yyH_generations) 126 = .ok (.aload_n 0, 1) := by decide +kernel
theorem dH_generations_127 : decode (xb yyH_generations) 127 = .ok (.getfield 25, 3) := by decide +kernel
theorem dH_generations_130 : decode (xb yyH_generations) 130 = .ok (.aload_n 0, 1) := by decide +kernel
theorem dH_generations_131 : decode (xb yyH_generations) 131 = .ok (.getfield 10, 3) := by decide +kernel
theorem dH_generations_134 : decode (xb yyH_generations) 134 = .ok (.getfield 85, 3) := by decide +kernel
theorem dH_generations_137 : decode (xb yyH_generations) 137 = .ok (.invokevirtual 188, 3) := by decide +kernel
theorem dH_generations_140 : decode (xb yyH_generations) 140 = .ok (.iinc 6 1, 3) := by decide +kernel
theorem dH_generations_143 : decode (xb yyH_generations) 143 = .ok (.goto (-94), 3) := by decide +kernel
theorem dH_generations_146 : decode (xb yyH_generations) 146 = .ok (.iload 5, 2) := by decide +kernel
theorem dH_generations_148 : decode (xb yyH_generations) 148 = .ok (.ireturn, 1) := by decide +kernel
def fH_generations_b126 (k49 : Int32 → Int64 → Int32 → Int32 → xM → Option (Int32 × xM)) (v2 : Int32) (v3 : Int64) (v5 : Int32) (v6 : Int32) (m : xM) : Option (Int32 × xM) := (fB_passYear 4 2 m).bind fun r137 => k49 v2 v3 v5 (v6 + 1) r137
def fH_generations_l49  : Nat → Int32 → Int64 → Int32 → Int32 → xM → Option (Int32 × xM)
  | 0, _, _, _, _, _ => none
  | n + 1, v2, v3, v5, v6, m => (if v2 ≤ v6 then some (v5, m) else (fW_hasInstrument 0 m (((((((v3 * (1103515245 : Int64)) + (12345 : Int64)) - ((v3 * (1103515245 : Int64)) + (12345 : Int64)) / (2147483648 : Int64) * (2147483648 : Int64)) / (65536 : Int64)) - ((((v3 * (1103515245 : Int64)) + (12345 : Int64)) - ((v3 * (1103515245 : Int64)) + (12345 : Int64)) / (2147483648 : Int64) * (2147483648 : Int64)) / (65536 : Int64)) / (4 : Int64) * (4 : Int64))).toInt32)).bind fun r99 => (if r99 = 0 then fH_generations_b126 (fH_generations_l49 n) v2 (((v3 * (1103515245 : Int64)) + (12345 : Int64)) - ((v3 * (1103515245 : Int64)) + (12345 : Int64)) / (2147483648 : Int64) * (2147483648 : Int64)) v5 v6 m else (fW_playOn 0 4 m (((((((v3 * (1103515245 : Int64)) + (12345 : Int64)) - ((v3 * (1103515245 : Int64)) + (12345 : Int64)) / (2147483648 : Int64) * (2147483648 : Int64)) / (65536 : Int64)) - ((((v3 * (1103515245 : Int64)) + (12345 : Int64)) - ((v3 * (1103515245 : Int64)) + (12345 : Int64)) / (2147483648 : Int64) * (2147483648 : Int64)) / (65536 : Int64)) / (4 : Int64) * (4 : Int64))).toInt32) (((((((v3 * (1103515245 : Int64)) + (12345 : Int64)) - ((v3 * (1103515245 : Int64)) + (12345 : Int64)) / (2147483648 : Int64) * (2147483648 : Int64)) / (1048576 : Int64)) - ((((v3 * (1103515245 : Int64)) + (12345 : Int64)) - ((v3 * (1103515245 : Int64)) + (12345 : Int64)) / (2147483648 : Int64) * (2147483648 : Int64)) / (1048576 : Int64)) / (4 : Int64) * (4 : Int64))).toInt32) (0 : Int32)).bind fun r120 => fH_generations_b126 (fH_generations_l49 n) v2 (((v3 * (1103515245 : Int64)) + (12345 : Int64)) - ((v3 * (1103515245 : Int64)) + (12345 : Int64)) / (2147483648 : Int64) * (2147483648 : Int64)) (v5 + r120) v6 m))
def fH_generations  (v1 : Int32) (v2 : Int32) (m : xM) : Option (Int32 × xM) := (fH_within v1 (0 : Int32) (999999 : Int32)).bind fun r5 => (if r5 = 0 then (fH_bad m).bind fun r22 => some (r22.1, r22.2) else (fH_within v2 (0 : Int32) (60 : Int32)).bind fun r15 => (if r15 = 0 then (fH_bad m).bind fun r22 => some (r22.1, r22.2) else (fB_become 4 0 m).bind fun r37 => fH_generations_l49 xfu v2 ((v1).toInt64) (0 : Int32) (0 : Int32) r37))
set_option maxRecDepth 100000 in
set_option maxHeartbeats 4000000 in
theorem kH_generations_b126 (G : xG)   (z : xM)  (k49 : Int32 → Int64 → Int32 → Int32 → xM → Option (Int32 × xM)) (hk49 : ∀ (v2 : Int32) (v3 : Int64) (v5 : Int32) (v6 : Int32) (m : xM), xR G yyH_generations (emic z) 49 [(0, .ref (xa G 81)), (2, .int v2), (3, .long v3), (5, .int v5), (6, .int v6)] [] (m, z) (k49 v2 v3 v5 v6 m)) (v2 : Int32) (v3 : Int64) (v5 : Int32) (v6 : Int32) (m : xM) : xR G yyH_generations (emic z) 126 [(0, .ref (xa G 81)), (2, .int v2), (3, .long v3), (5, .int v5), (6, .int v6)] [] (m, z) (fH_generations_b126 k49 v2 v3 v5 v6 m) := by
  unfold fH_generations_b126
  refine xR_aln 126 0 dH_generations_126 rfl rfl ?_
  refine xR_getf 127 xcf6 3 81 (by decide) (by decide) rfl (v := .ref (xa G 76)) rfl fl_RX8_25 dH_generations_127 ?_
  refine xR_aln 130 0 dH_generations_130 rfl rfl ?_
  refine xR_getf 131 xcf6 0 81 (by decide) (by decide) rfl (v := .ref (xa G 77)) rfl fl_RX8_10 dH_generations_131 ?_
  refine xR_getf 134 xcf5 2 77 (by decide) (by decide) (xC_twn (t := 0) (by decide)) (v := .ref (xa G 38)) rfl fl_RX8_85 dH_generations_134 ?_
  refine xR_callVvc 137 cv_B_passYear ml_RX8_188 ⟨Nat.le_of_ble_eq_true rfl, Nat.le_of_ble_eq_true rfl⟩ xcf0 rfl 76 (by decide) (xC_brd (b := 4) (by decide)) [.ref (xa G 38)] rfl rfl (Nat.le_of_ble_eq_true rfl) dH_generations_137 (kB_passYear G 4 2 (by decide) (by decide) z m) (fun r137 => ?_)
  refine xR_iinc 140 4 (v6 + 1) ([(6, .int (v6 + 1)), (0, .ref (xa G 81)), (2, .int v2), (3, .long v3), (5, .int v5)]) dH_generations_140 rfl rfl (by decide) rfl ?_
  refine xR_goto 143 49 dH_generations_143 (by decide) ?_
  exact xR_sub [1, 2, 3, 4, 0] rfl (hk49 v2 v3 v5 (v6 + 1) r137)
set_option maxRecDepth 100000 in
set_option maxHeartbeats 4000000 in
theorem kH_generations_l49 (G : xG)   (z : xM)    : ∀ (n : Nat) (v2 : Int32) (v3 : Int64) (v5 : Int32) (v6 : Int32) (m : xM), xR G yyH_generations (emic z) 49 [(0, .ref (xa G 81)), (2, .int v2), (3, .long v3), (5, .int v5), (6, .int v6)] [] (m, z) (fH_generations_l49  n v2 v3 v5 v6 m) := by
  intro n
  induction n with
  | zero =>
    intro v2 v3 v5 v6 m
    rw [fH_generations_l49]
    exact xR_none
  | succ n ih =>
    intro v2 v3 v5 v6 m
    rw [fH_generations_l49]
    refine xR_il 49 4 dH_generations_49 rfl ?_
    refine xR_iln 51 1 dH_generations_51 rfl rfl ?_
    refine xR_icge 52 146 dH_generations_52 (by decide) ?_ ?_
    · refine xR_il 146 3 dH_generations_146 rfl ?_
      exact xR_iret 148 rfl rfl dH_generations_148
    · refine xR_lln 55 2 dH_generations_55 rfl rfl ?_
      refine xR_ldc2 56 cl_RX8_283 dH_generations_56 ?_
      refine xR_lmul 59 dH_generations_59 ?_
      refine xR_ldc2 60 cl_RX8_285 dH_generations_60 ?_
      refine xR_ladd 63 dH_generations_63 ?_
      refine xR_ldc2 64 cl_RX8_287 dH_generations_64 ?_
      refine xR_lrem 67 dH_generations_67 (by decide) ?_
      refine xR_lsn 68 ([(3, .long (((v3 * (1103515245 : Int64)) + (12345 : Int64)) - ((v3 * (1103515245 : Int64)) + (12345 : Int64)) / (2147483648 : Int64) * (2147483648 : Int64))), (0, .ref (xa G 81)), (2, .int v2), (5, .int v5), (6, .int v6)]) dH_generations_68 rfl (by decide) rfl ?_
      refine xR_lln 69 0 dH_generations_69 rfl rfl ?_
      refine xR_ldc2 70 cl_RX8_289 dH_generations_70 ?_
      refine xR_ldiv 73 dH_generations_73 (by decide) ?_
      refine xR_ldc2 74 cl_RX8_291 dH_generations_74 ?_
      refine xR_lrem 77 dH_generations_77 (by decide) ?_
      refine xR_l2i 78 dH_generations_78 ?_
      refine xR_is 79 ([(7, .int (((((((v3 * (1103515245 : Int64)) + (12345 : Int64)) - ((v3 * (1103515245 : Int64)) + (12345 : Int64)) / (2147483648 : Int64) * (2147483648 : Int64)) / (65536 : Int64)) - ((((v3 * (1103515245 : Int64)) + (12345 : Int64)) - ((v3 * (1103515245 : Int64)) + (12345 : Int64)) / (2147483648 : Int64) * (2147483648 : Int64)) / (65536 : Int64)) / (4 : Int64) * (4 : Int64))).toInt32)), (3, .long (((v3 * (1103515245 : Int64)) + (12345 : Int64)) - ((v3 * (1103515245 : Int64)) + (12345 : Int64)) / (2147483648 : Int64) * (2147483648 : Int64))), (0, .ref (xa G 81)), (2, .int v2), (5, .int v5), (6, .int v6)]) dH_generations_79 (by decide) rfl ?_
      refine xR_lln 81 1 dH_generations_81 rfl rfl ?_
      refine xR_ldc2 82 cl_RX8_293 dH_generations_82 ?_
      refine xR_ldiv 85 dH_generations_85 (by decide) ?_
      refine xR_ldc2 86 cl_RX8_291 dH_generations_86 ?_
      refine xR_lrem 89 dH_generations_89 (by decide) ?_
      refine xR_l2i 90 dH_generations_90 ?_
      refine xR_is 91 ([(8, .int (((((((v3 * (1103515245 : Int64)) + (12345 : Int64)) - ((v3 * (1103515245 : Int64)) + (12345 : Int64)) / (2147483648 : Int64) * (2147483648 : Int64)) / (1048576 : Int64)) - ((((v3 * (1103515245 : Int64)) + (12345 : Int64)) - ((v3 * (1103515245 : Int64)) + (12345 : Int64)) / (2147483648 : Int64) * (2147483648 : Int64)) / (1048576 : Int64)) / (4 : Int64) * (4 : Int64))).toInt32)), (7, .int (((((((v3 * (1103515245 : Int64)) + (12345 : Int64)) - ((v3 * (1103515245 : Int64)) + (12345 : Int64)) / (2147483648 : Int64) * (2147483648 : Int64)) / (65536 : Int64)) - ((((v3 * (1103515245 : Int64)) + (12345 : Int64)) - ((v3 * (1103515245 : Int64)) + (12345 : Int64)) / (2147483648 : Int64) * (2147483648 : Int64)) / (65536 : Int64)) / (4 : Int64) * (4 : Int64))).toInt32)), (3, .long (((v3 * (1103515245 : Int64)) + (12345 : Int64)) - ((v3 * (1103515245 : Int64)) + (12345 : Int64)) / (2147483648 : Int64) * (2147483648 : Int64))), (0, .ref (xa G 81)), (2, .int v2), (5, .int v5), (6, .int v6)]) dH_generations_91 (by decide) rfl ?_
      refine xR_aln 93 3 dH_generations_93 rfl rfl ?_
      refine xR_getf 94 xcf6 0 81 (by decide) (by decide) rfl (v := .ref (xa G 77)) rfl fl_RX8_10 dH_generations_94 ?_
      refine xR_il 97 1 dH_generations_97 rfl ?_
      refine xR_callVi 99 cv_W_hasInstrument ml_RX8_151 ⟨Nat.le_of_ble_eq_true rfl, Nat.le_of_ble_eq_true rfl⟩ xcf5 rfl 77 (by decide) (xC_twn (t := 0) (by decide)) [.int (((((((v3 * (1103515245 : Int64)) + (12345 : Int64)) - ((v3 * (1103515245 : Int64)) + (12345 : Int64)) / (2147483648 : Int64) * (2147483648 : Int64)) / (65536 : Int64)) - ((((v3 * (1103515245 : Int64)) + (12345 : Int64)) - ((v3 * (1103515245 : Int64)) + (12345 : Int64)) / (2147483648 : Int64) * (2147483648 : Int64)) / (65536 : Int64)) / (4 : Int64) * (4 : Int64))).toInt32)] rfl rfl (Nat.le_of_ble_eq_true rfl) dH_generations_99 (kW_hasInstrument G 0 (by decide) z m (((((((v3 * (1103515245 : Int64)) + (12345 : Int64)) - ((v3 * (1103515245 : Int64)) + (12345 : Int64)) / (2147483648 : Int64) * (2147483648 : Int64)) / (65536 : Int64)) - ((((v3 * (1103515245 : Int64)) + (12345 : Int64)) - ((v3 * (1103515245 : Int64)) + (12345 : Int64)) / (2147483648 : Int64) * (2147483648 : Int64)) / (65536 : Int64)) / (4 : Int64) * (4 : Int64))).toInt32)) (fun r99 => ?_)
      refine xR_ifeq 102 126 dH_generations_102 (by decide) ?_ ?_
      · exact xR_sub [3, 4, 2, 5, 6] rfl (kH_generations_b126 G z (fH_generations_l49 n) ih v2 (((v3 * (1103515245 : Int64)) + (12345 : Int64)) - ((v3 * (1103515245 : Int64)) + (12345 : Int64)) / (2147483648 : Int64) * (2147483648 : Int64)) v5 v6 m)
      · refine xR_il 105 5 dH_generations_105 rfl ?_
        refine xR_aln 107 3 dH_generations_107 rfl rfl ?_
        refine xR_getf 108 xcf6 0 81 (by decide) (by decide) rfl (v := .ref (xa G 77)) rfl fl_RX8_10 dH_generations_108 ?_
        refine xR_aln 111 3 dH_generations_111 rfl rfl ?_
        refine xR_getf 112 xcf6 3 81 (by decide) (by decide) rfl (v := .ref (xa G 76)) rfl fl_RX8_25 dH_generations_112 ?_
        refine xR_il 115 1 dH_generations_115 rfl ?_
        refine xR_il 117 0 dH_generations_117 rfl ?_
        refine xR_ic 119 (0 : Int32) dH_generations_119 (by decide) ?_
        refine xR_callVi 120 cv_W_playOn ml_RX8_192 ⟨Nat.le_of_ble_eq_true rfl, Nat.le_of_ble_eq_true rfl⟩ xcf5 rfl 77 (by decide) (xC_twn (t := 0) (by decide)) [.ref (xa G 76), .int (((((((v3 * (1103515245 : Int64)) + (12345 : Int64)) - ((v3 * (1103515245 : Int64)) + (12345 : Int64)) / (2147483648 : Int64) * (2147483648 : Int64)) / (65536 : Int64)) - ((((v3 * (1103515245 : Int64)) + (12345 : Int64)) - ((v3 * (1103515245 : Int64)) + (12345 : Int64)) / (2147483648 : Int64) * (2147483648 : Int64)) / (65536 : Int64)) / (4 : Int64) * (4 : Int64))).toInt32), .int (((((((v3 * (1103515245 : Int64)) + (12345 : Int64)) - ((v3 * (1103515245 : Int64)) + (12345 : Int64)) / (2147483648 : Int64) * (2147483648 : Int64)) / (1048576 : Int64)) - ((((v3 * (1103515245 : Int64)) + (12345 : Int64)) - ((v3 * (1103515245 : Int64)) + (12345 : Int64)) / (2147483648 : Int64) * (2147483648 : Int64)) / (1048576 : Int64)) / (4 : Int64) * (4 : Int64))).toInt32), .int (0 : Int32)] rfl rfl (Nat.le_of_ble_eq_true rfl) dH_generations_120 (kW_playOn G 0 4 (by decide) (by decide) z m (((((((v3 * (1103515245 : Int64)) + (12345 : Int64)) - ((v3 * (1103515245 : Int64)) + (12345 : Int64)) / (2147483648 : Int64) * (2147483648 : Int64)) / (65536 : Int64)) - ((((v3 * (1103515245 : Int64)) + (12345 : Int64)) - ((v3 * (1103515245 : Int64)) + (12345 : Int64)) / (2147483648 : Int64) * (2147483648 : Int64)) / (65536 : Int64)) / (4 : Int64) * (4 : Int64))).toInt32) (((((((v3 * (1103515245 : Int64)) + (12345 : Int64)) - ((v3 * (1103515245 : Int64)) + (12345 : Int64)) / (2147483648 : Int64) * (2147483648 : Int64)) / (1048576 : Int64)) - ((((v3 * (1103515245 : Int64)) + (12345 : Int64)) - ((v3 * (1103515245 : Int64)) + (12345 : Int64)) / (2147483648 : Int64) * (2147483648 : Int64)) / (1048576 : Int64)) / (4 : Int64) * (4 : Int64))).toInt32) (0 : Int32)) (fun r120 => ?_)
        refine xR_iadd 123 dH_generations_123 ?_
        refine xR_is 124 ([(5, .int (v5 + r120)), (8, .int (((((((v3 * (1103515245 : Int64)) + (12345 : Int64)) - ((v3 * (1103515245 : Int64)) + (12345 : Int64)) / (2147483648 : Int64) * (2147483648 : Int64)) / (1048576 : Int64)) - ((((v3 * (1103515245 : Int64)) + (12345 : Int64)) - ((v3 * (1103515245 : Int64)) + (12345 : Int64)) / (2147483648 : Int64) * (2147483648 : Int64)) / (1048576 : Int64)) / (4 : Int64) * (4 : Int64))).toInt32)), (7, .int (((((((v3 * (1103515245 : Int64)) + (12345 : Int64)) - ((v3 * (1103515245 : Int64)) + (12345 : Int64)) / (2147483648 : Int64) * (2147483648 : Int64)) / (65536 : Int64)) - ((((v3 * (1103515245 : Int64)) + (12345 : Int64)) - ((v3 * (1103515245 : Int64)) + (12345 : Int64)) / (2147483648 : Int64) * (2147483648 : Int64)) / (65536 : Int64)) / (4 : Int64) * (4 : Int64))).toInt32)), (3, .long (((v3 * (1103515245 : Int64)) + (12345 : Int64)) - ((v3 * (1103515245 : Int64)) + (12345 : Int64)) / (2147483648 : Int64) * (2147483648 : Int64))), (0, .ref (xa G 81)), (2, .int v2), (6, .int v6)]) dH_generations_124 (by decide) rfl ?_
        exact xR_sub [4, 5, 3, 0, 6] rfl (kH_generations_b126 G z (fH_generations_l49 n) ih v2 (((v3 * (1103515245 : Int64)) + (12345 : Int64)) - ((v3 * (1103515245 : Int64)) + (12345 : Int64)) / (2147483648 : Int64) * (2147483648 : Int64)) (v5 + r120) v6 m)
set_option maxRecDepth 100000 in
set_option maxHeartbeats 4000000 in
theorem kH_generations (G : xG)   (z : xM) (m : xM) (v1 : Int32) (v2 : Int32) : ∀ a, fH_generations  v1 v2 m = some a → xCt G yyH_generations [.ref (xa G 81), .int v1, .int v2] (m, z) (some (.int a.1)) (a.2, z) := by
  refine xR_ct (em := (emic z)) rfl (Nat.le_of_ble_eq_true rfl) ?_
  show xR G yyH_generations _ 0 [(0, .ref (xa G 81)), (1, .int v1), (2, .int v2)] [] _ _
  unfold fH_generations
  refine xR_iln 0 1 dH_generations_0 rfl rfl ?_
  refine xR_ic 1 (0 : Int32) dH_generations_1 (by decide) ?_
  refine xR_ldcw 2 ci_RX8_282 dH_generations_2 ?_
  refine xR_callSi 5 cs_H_within ml_RX8_78 ⟨Nat.le_of_ble_eq_true rfl, Nat.le_of_ble_eq_true rfl⟩ [.int v1, .int (0 : Int32), .int (999999 : Int32)] rfl rfl (Nat.le_of_ble_eq_true rfl) dH_generations_5 (kH_within G (m, z) v1 (0 : Int32) (999999 : Int32)) (fun r5 => ?_)
  refine xR_ifeq 8 21 dH_generations_8 (by decide) ?_ ?_
  · refine xR_aln 21 0 dH_generations_21 rfl rfl ?_
    refine xR_callVic 22 cv_H_bad ml_RX8_82 ⟨Nat.le_of_ble_eq_true rfl, Nat.le_of_ble_eq_true rfl⟩ xcf6 rfl 81 (by decide) rfl [] rfl rfl (Nat.le_of_ble_eq_true rfl) dH_generations_22 (kH_bad G z m) (fun r22 => ?_)
    exact xR_iret 25 rfl rfl dH_generations_25
  · refine xR_iln 11 2 dH_generations_11 rfl rfl ?_
    refine xR_ic 12 (0 : Int32) dH_generations_12 (by decide) ?_
    refine xR_bp 13 (60 : Int32) dH_generations_13 (by decide) ?_
    refine xR_callSi 15 cs_H_within ml_RX8_78 ⟨Nat.le_of_ble_eq_true rfl, Nat.le_of_ble_eq_true rfl⟩ [.int v2, .int (0 : Int32), .int (60 : Int32)] rfl rfl (Nat.le_of_ble_eq_true rfl) dH_generations_15 (kH_within G (m, z) v2 (0 : Int32) (60 : Int32)) (fun r15 => ?_)
    refine xR_ifne 18 26 dH_generations_18 (by decide) ?_ ?_
    · refine xR_aln 26 0 dH_generations_26 rfl rfl ?_
      refine xR_getf 27 xcf6 3 81 (by decide) (by decide) rfl (v := .ref (xa G 76)) rfl fl_RX8_25 dH_generations_27 ?_
      refine xR_aln 30 0 dH_generations_30 rfl rfl ?_
      refine xR_getf 31 xcf6 0 81 (by decide) (by decide) rfl (v := .ref (xa G 77)) rfl fl_RX8_10 dH_generations_31 ?_
      refine xR_getf 34 xcf5 0 77 (by decide) (by decide) (xC_twn (t := 0) (by decide)) (v := .ref (xa G 72)) rfl fl_RX8_68 dH_generations_34 ?_
      refine xR_callVvc 37 cv_B_become ml_RX8_185 ⟨Nat.le_of_ble_eq_true rfl, Nat.le_of_ble_eq_true rfl⟩ xcf0 rfl 76 (by decide) (xC_brd (b := 4) (by decide)) [.ref (xa G 72)] rfl rfl (Nat.le_of_ble_eq_true rfl) dH_generations_37 (kB_become G 4 0 (by decide) (by decide) z m) (fun r37 => ?_)
      refine xR_iln 40 1 dH_generations_40 rfl rfl ?_
      refine xR_i2l 41 dH_generations_41 ?_
      refine xR_lsn 42 ([(3, .long ((v1).toInt64)), (0, .ref (xa G 81)), (1, .int v1), (2, .int v2)]) dH_generations_42 rfl (by decide) rfl ?_
      refine xR_ic 43 (0 : Int32) dH_generations_43 (by decide) ?_
      refine xR_is 44 ([(5, .int (0 : Int32)), (3, .long ((v1).toInt64)), (0, .ref (xa G 81)), (1, .int v1), (2, .int v2)]) dH_generations_44 (by decide) rfl ?_
      refine xR_ic 46 (0 : Int32) dH_generations_46 (by decide) ?_
      refine xR_is 47 ([(6, .int (0 : Int32)), (5, .int (0 : Int32)), (3, .long ((v1).toInt64)), (0, .ref (xa G 81)), (1, .int v1), (2, .int v2)]) dH_generations_47 (by decide) rfl ?_
      exact xR_sub [3, 5, 2, 1, 0] rfl (kH_generations_l49 G z xfu v2 ((v1).toInt64) (0 : Int32) (0 : Int32) r37)
    · refine xR_aln 21 0 dH_generations_21 rfl rfl ?_
      refine xR_callVic 22 cv_H_bad ml_RX8_82 ⟨Nat.le_of_ble_eq_true rfl, Nat.le_of_ble_eq_true rfl⟩ xcf6 rfl 81 (by decide) rfl [] rfl rfl (Nat.le_of_ble_eq_true rfl) dH_generations_22 (kH_bad G z m) (fun r22 => ?_)
      exact xR_iret 25 rfl rfl dH_generations_25
theorem dH_part_0 : decode (xb yyH_part) 0 = .ok (.iload_n 1, 1) := by decide +kernel
theorem dH_part_1 : decode (xb yyH_part) 1 = .ok (.iconst 0, 1) := by decide +kernel
theorem dH_part_2 : decode (xb yyH_part) 2 = .ok (.iconst 1, 1) := by decide +kernel
theorem dH_part_3 : decode (xb yyH_part) 3 = .ok (.invokestatic 78, 3) := by decide +kernel
theorem dH_part_6 : decode (xb yyH_part) 6 = .ok (.ifCond .ne 9, 3) := by decide +kernel
theorem dH_part_9 : decode (xb yyH_part) 9 = .ok (.aload_n 0, 1) := by decide +kernel
theorem dH_part_10 : decode (xb yyH_part) 10 = .ok (.invokevirtual 82, 3) := by decide +kernel
theorem dH_part_13 : decode (xb yyH_part) 13 = .ok (.i2l, 1) := by decide +kernel
theorem dH_part_14 : decode (xb yyH_part) 14 = .ok (.lreturn, 1) := by decide +kernel
theorem dH_part_15 : decode (xb yyH_part) 15 = .ok (.iload_n 1, 1) := by decide +kernel
theorem dH_part_16 : decode (xb yyH_part) 16 = .ok (.ifCond .ne 10, 3) := by decide +kernel
theorem dH_part_19 : decode (xb yyH_part) 19 = .ok (.aload_n 0, 1) := by decide +kernel
theorem dH_part_20 : decode (xb yyH_part) 20 = .ok (.getfield 295, 3) := by decide +kernel
theorem dH_part_23 : decode (xb yyH_part) 23 = .ok (.goto 7, 3) := by decide +kernel
theorem dH_part_26 : decode (xb yyH_part) 26 = .ok (.aload_n 0, 1) := by decide +kernel
theorem dH_part_27 : decode (xb yyH_part) 27 = .ok (.getfield 64, 3) := by decide +kernel
theorem dH_part_30 : decode (xb yyH_part) 30 = .ok (.lreturn, 1) := by decide +kernel
def fH_part  (v1 : Int32) (m : xM) : Option (Int64 × xM) := (fH_within v1 (0 : Int32) (1 : Int32)).bind fun r3 => (if r3 = 0 then (fH_bad m).bind fun r10 => some (((r10.1).toInt64), r10.2) else (if v1 = 0 then some ((m.2 0), m) else some ((m.2 1), m)))
set_option maxRecDepth 100000 in
set_option maxHeartbeats 4000000 in
theorem kH_part (G : xG)   (z : xM) (m : xM) (v1 : Int32) : ∀ a, fH_part  v1 m = some a → xCt G yyH_part [.ref (xa G 81), .int v1] (m, z) (some (.long a.1)) (a.2, z) := by
  refine xR_ct (em := (emlc z)) rfl (Nat.le_of_ble_eq_true rfl) ?_
  show xR G yyH_part _ 0 [(0, .ref (xa G 81)), (1, .int v1)] [] _ _
  unfold fH_part
  refine xR_iln 0 1 dH_part_0 rfl rfl ?_
  refine xR_ic 1 (0 : Int32) dH_part_1 (by decide) ?_
  refine xR_ic 2 (1 : Int32) dH_part_2 (by decide) ?_
  refine xR_callSi 3 cs_H_within ml_RX8_78 ⟨Nat.le_of_ble_eq_true rfl, Nat.le_of_ble_eq_true rfl⟩ [.int v1, .int (0 : Int32), .int (1 : Int32)] rfl rfl (Nat.le_of_ble_eq_true rfl) dH_part_3 (kH_within G (m, z) v1 (0 : Int32) (1 : Int32)) (fun r3 => ?_)
  refine xR_ifne 6 15 dH_part_6 (by decide) ?_ ?_
  · refine xR_iln 15 1 dH_part_15 rfl rfl ?_
    refine xR_ifne 16 26 dH_part_16 (by decide) ?_ ?_
    · refine xR_aln 26 0 dH_part_26 rfl rfl ?_
      refine xR_getf 27 xcf6 12 81 (by decide) (by decide) rfl (v := .long (m.2 1)) rfl fl_RX8_64 dH_part_27 ?_
      exact xR_lret 30 rfl rfl dH_part_30
    · refine xR_aln 19 0 dH_part_19 rfl rfl ?_
      refine xR_getf 20 xcf6 11 81 (by decide) (by decide) rfl (v := .long (m.2 0)) rfl fl_RX8_295 dH_part_20 ?_
      refine xR_goto 23 30 dH_part_23 (by decide) ?_
      exact xR_lret 30 rfl rfl dH_part_30
  · refine xR_aln 9 0 dH_part_9 rfl rfl ?_
    refine xR_callVic 10 cv_H_bad ml_RX8_82 ⟨Nat.le_of_ble_eq_true rfl, Nat.le_of_ble_eq_true rfl⟩ xcf6 rfl 81 (by decide) rfl [] rfl rfl (Nat.le_of_ble_eq_true rfl) dH_part_10 (kH_bad G z m) (fun r10 => ?_)
    refine xR_i2l 13 dH_part_13 ?_
    exact xR_lret 14 rfl rfl dH_part_14
theorem dH_image_0 : decode (xb yyH_image) 0 = .ok (.iload_n 1, 1) := by decide +kernel
theorem dH_image_1 : decode (xb yyH_image) 1 = .ok (.iconst 0, 1) := by decide +kernel
theorem dH_image_2 : decode (xb yyH_image) 2 = .ok (.iconst 1, 1) := by decide +kernel
theorem dH_image_3 : decode (xb yyH_image) 3 = .ok (.invokestatic 78, 3) := by decide +kernel
theorem dH_image_6 : decode (xb yyH_image) 6 = .ok (.ifCond .ne 8, 3) := by decide +kernel
theorem dH_image_9 : decode (xb yyH_image) 9 = .ok (.aload_n 0, 1) := by decide +kernel
theorem dH_image_10 : decode (xb yyH_image) 10 = .ok (.invokevirtual 82, 3) := by decide +kernel
theorem dH_image_13 : decode (xb yyH_image) 13 = .ok (.ireturn, 1) := by decide +kernel
theorem dH_image_14 : decode (xb yyH_image) 14 = .ok (.iload_n 1, 1) := by decide +kernel
theorem dH_image_15 : decode (xb yyH_image) 15 = .ok (.ifCond .ne 22, 3) := by decide +kernel
theorem dH_image_18 : decode (xb yyH_image) 18 = .ok (.aload_n 0, 1) := by decide +kernel
theorem dH_image_19 : decode (xb yyH_image) 19 = .ok (.getfield 16, 3) := by decide +kernel
theorem dH_image_22 : decode (xb yyH_image) 22 = .ok (.aload_n 0, 1) := by decide +kernel
theorem dH_image_23 : decode (xb yyH_image) 23 = .ok (.getfield 10, 3) := by decide +kernel
theorem dH_image_26 : decode (xb yyH_image) 26 = .ok (.invokevirtual 137, 3) := by decide +kernel
theorem dH_image_29 : decode (xb yyH_image) 29 = .ok (.aload_n 0, 1) := by decide +kernel
theorem dH_image_30 : decode (xb yyH_image) 30 = .ok (.iconst 1, 1) := by decide +kernel
theorem dH_image_31 : decode (xb yyH_image) 31 = .ok (.putfield 298, 3) := by decide +kernel
theorem dH_image_34 : decode (xb yyH_image) 34 = .ok (.goto 19, 3) := by decide +kernel
theorem dH_image_37 : decode (xb yyH_image) 37 = .ok (.aload_n 0, 1) := by decide +kernel
theorem dH_image_38 : decode (xb yyH_image) 38 = .ok (.getfield 19, 3) := by decide +kernel
theorem dH_image_41 : decode (xb yyH_image) 41 = .ok (.aload_n 0, 1) := by decide +kernel
theorem dH_image_42 : decode (xb yyH_image) 42 = .ok (.getfield 10, 3) := by decide +kernel
theorem dH_image_45 : decode (xb yyH_image) 45 = .ok (.invokevirtual 137, 3) := by decide +kernel
theorem dH_image_48 : decode (xb yyH_image) 48 = .ok (.aload_n 0, 1) := by decide +kernel
theorem dH_image_49 : decode (xb yyH_image) 49 = .ok (.iconst 1, 1) := by decide +kernel
theorem dH_image_50 : decode (xb yyH_image) 50 = .ok (.putfield 302, 3) := by decide +kernel
theorem dH_image_53 : decode (xb yyH_image) 53 = .ok (.iconst 1, 1) := by decide +kernel
theorem dH_image_54 : decode (xb yyH_image) 54 = .ok (.ireturn, 1) := by decide +kernel
def fH_image  (v1 : Int32) (m : xM) : Option (Int32 × xM) := (fH_within v1 (0 : Int32) (1 : Int32)).bind fun r3 => (if r3 = 0 then (fH_bad m).bind fun r10 => some (r10.1, r10.2) else (if v1 = 0 then (fW_become 1 0 m).bind fun r26 => some ((1 : Int32), (xset r26 38 0 (1 : Int32))) else (fW_become 2 0 m).bind fun r45 => some ((1 : Int32), (xset r45 38 1 (1 : Int32)))))
set_option maxRecDepth 100000 in
set_option maxHeartbeats 4000000 in
theorem kH_image (G : xG)   (z : xM) (m : xM) (v1 : Int32) : ∀ a, fH_image  v1 m = some a → xCt G yyH_image [.ref (xa G 81), .int v1] (m, z) (some (.int a.1)) (a.2, z) := by
  refine xR_ct (em := (emic z)) rfl (Nat.le_of_ble_eq_true rfl) ?_
  show xR G yyH_image _ 0 [(0, .ref (xa G 81)), (1, .int v1)] [] _ _
  unfold fH_image
  refine xR_iln 0 1 dH_image_0 rfl rfl ?_
  refine xR_ic 1 (0 : Int32) dH_image_1 (by decide) ?_
  refine xR_ic 2 (1 : Int32) dH_image_2 (by decide) ?_
  refine xR_callSi 3 cs_H_within ml_RX8_78 ⟨Nat.le_of_ble_eq_true rfl, Nat.le_of_ble_eq_true rfl⟩ [.int v1, .int (0 : Int32), .int (1 : Int32)] rfl rfl (Nat.le_of_ble_eq_true rfl) dH_image_3 (kH_within G (m, z) v1 (0 : Int32) (1 : Int32)) (fun r3 => ?_)
  refine xR_ifne 6 14 dH_image_6 (by decide) ?_ ?_
  · refine xR_iln 14 1 dH_image_14 rfl rfl ?_
    refine xR_ifne 15 37 dH_image_15 (by decide) ?_ ?_
    · refine xR_aln 37 0 dH_image_37 rfl rfl ?_
      refine xR_getf 38 xcf6 2 81 (by decide) (by decide) rfl (v := .ref (xa G 79)) rfl fl_RX8_19 dH_image_38 ?_
      refine xR_aln 41 0 dH_image_41 rfl rfl ?_
      refine xR_getf 42 xcf6 0 81 (by decide) (by decide) rfl (v := .ref (xa G 77)) rfl fl_RX8_10 dH_image_42 ?_
      refine xR_callVvc 45 cv_W_become ml_RX8_137 ⟨Nat.le_of_ble_eq_true rfl, Nat.le_of_ble_eq_true rfl⟩ xcf5 rfl 79 (by decide) (xC_twn (t := 2) (by decide)) [.ref (xa G 77)] rfl rfl (Nat.le_of_ble_eq_true rfl) dH_image_45 (kW_become G 2 0 (by decide) (by decide) z m) (fun r45 => ?_)
      refine xR_aln 48 0 dH_image_48 rfl rfl ?_
      refine xR_ic 49 (1 : Int32) dH_image_49 (by decide) ?_
      refine xR_putf 50 xcf6 10 81 (by decide) (by decide) rfl rfl rfl rfl (Nat.le_of_ble_eq_true rfl) ((xset r45 38 1 (1 : Int32)), z) (xW_blk (a := 38) (i := 1) (by decide) (by decide) rfl) fl_RX8_302 dH_image_50 ?_
      refine xR_ic 53 (1 : Int32) dH_image_53 (by decide) ?_
      exact xR_iret 54 rfl rfl dH_image_54
    · refine xR_aln 18 0 dH_image_18 rfl rfl ?_
      refine xR_getf 19 xcf6 1 81 (by decide) (by decide) rfl (v := .ref (xa G 78)) rfl fl_RX8_16 dH_image_19 ?_
      refine xR_aln 22 0 dH_image_22 rfl rfl ?_
      refine xR_getf 23 xcf6 0 81 (by decide) (by decide) rfl (v := .ref (xa G 77)) rfl fl_RX8_10 dH_image_23 ?_
      refine xR_callVvc 26 cv_W_become ml_RX8_137 ⟨Nat.le_of_ble_eq_true rfl, Nat.le_of_ble_eq_true rfl⟩ xcf5 rfl 78 (by decide) (xC_twn (t := 1) (by decide)) [.ref (xa G 77)] rfl rfl (Nat.le_of_ble_eq_true rfl) dH_image_26 (kW_become G 1 0 (by decide) (by decide) z m) (fun r26 => ?_)
      refine xR_aln 29 0 dH_image_29 rfl rfl ?_
      refine xR_ic 30 (1 : Int32) dH_image_30 (by decide) ?_
      refine xR_putf 31 xcf6 9 81 (by decide) (by decide) rfl rfl rfl rfl (Nat.le_of_ble_eq_true rfl) ((xset r26 38 0 (1 : Int32)), z) (xW_blk (a := 38) (i := 0) (by decide) (by decide) rfl) fl_RX8_298 dH_image_31 ?_
      refine xR_goto 34 53 dH_image_34 (by decide) ?_
      refine xR_ic 53 (1 : Int32) dH_image_53 (by decide) ?_
      exact xR_iret 54 rfl rfl dH_image_54
  · refine xR_aln 9 0 dH_image_9 rfl rfl ?_
    refine xR_callVic 10 cv_H_bad ml_RX8_82 ⟨Nat.le_of_ble_eq_true rfl, Nat.le_of_ble_eq_true rfl⟩ xcf6 rfl 81 (by decide) rfl [] rfl rfl (Nat.le_of_ble_eq_true rfl) dH_image_10 (kH_bad G z m) (fun r10 => ?_)
    exact xR_iret 13 rfl rfl dH_image_13
theorem dH_from_0 : decode (xb yyH_from) 0 = .ok (.iload_n 1, 1) := by decide +kernel
theorem dH_from_1 : decode (xb yyH_from) 1 = .ok (.iconst 0, 1) := by decide +kernel
theorem dH_from_2 : decode (xb yyH_from) 2 = .ok (.iconst 1, 1) := by decide +kernel
theorem dH_from_3 : decode (xb yyH_from) 3 = .ok (.invokestatic 78, 3) := by decide +kernel
theorem dH_from_6 : decode (xb yyH_from) 6 = .ok (.ifCond .ne 8, 3) := by decide +kernel
theorem dH_from_9 : decode (xb yyH_from) 9 = .ok (.aload_n 0, 1) := by decide +kernel
theorem dH_from_10 : decode (xb yyH_from) 10 = .ok (.invokevirtual 82, 3) := by decide +kernel
theorem dH_from_13 : decode (xb yyH_from) 13 = .ok (.ireturn, 1) := by decide +kernel
theorem dH_from_14 : decode (xb yyH_from) 14 = .ok (.iload_n 1, 1) := by decide +kernel
theorem dH_from_15 : decode (xb yyH_from) 15 = .ok (.ifCond .ne 13, 3) := by decide +kernel
theorem dH_from_18 : decode (xb yyH_from) 18 = .ok (.aload_n 0, 1) := by decide +kernel
theorem dH_from_19 : decode (xb yyH_from) 19 = .ok (.getfield 298, 3) := by decide +kernel
theorem dH_from_22 : decode (xb yyH_from) 22 = .ok (.ifCond .ne 18, 3) := by decide +kernel
theorem dH_from_25 : decode (xb yyH_from) 25 = .ok (.goto 10, 3) := by decide +kernel
theorem dH_from_28 : decode (xb yyH_from) 28 = .ok (.aload_n 0, 1) := by decide +kernel
theorem dH_from_29 : decode (xb yyH_from) 29 = .ok (.getfield 302, 3) := by decide +kernel
theorem dH_from_32 : decode (xb yyH_from) 32 = .ok (.ifCond .ne 8, 3) := by decide +kernel
theorem dH_from_35 : decode (xb yyH_from) 35 = .ok (.aload_n 0, 1) := by decide +kernel
theorem dH_from_36 : decode (xb yyH_from) 36 = .ok (.invokevirtual 157, 3) := by decide +kernel
theorem dH_from_39 : decode (xb yyH_from) 39 = .ok (.ireturn, 1) := by decide +kernel
theorem dH_from_40 : decode (xb yyH_from) 40 = .ok (.aload_n 0, 1) := by decide +kernel
theorem dH_from_41 : decode (xb yyH_from) 41 = .ok (.getfield 10, 3) := by decide +kernel
theorem dH_from_44 : decode (xb yyH_from) 44 = .ok (.iload_n 1, 1) := by decide +kernel
theorem dH_from_45 : decode (xb yyH_from) 45 = .ok (.ifCond .ne 10, 3) := by decide +kernel
theorem dH_from_48 : decode (xb yyH_from) 48 = .ok (.aload_n 0, 1) := by decide +kernel
theorem dH_from_49 : decode (xb yyH_from) 49 = .ok (.getfield 16, 3) := by decide +kernel
theorem dH_from_52 : decode (xb yyH_from) 52 = .ok (.goto 7, 3) := by decide +kernel
theorem dH_from_55 : decode (xb yyH_from) 55 = .ok (.aload_n 0, 1) := by decide +kernel
theorem dH_from_56 : decode (xb yyH_from) 56 = .ok (.getfield 19, 3) := by decide +kernel
theorem dH_from_59 : decode (xb yyH_from) 59 = .ok (.invokevirtual 137, 3) := by decide +kernel
theorem dH_from_62 : decode (xb yyH_from) 62 = .ok (.iconst 1, 1) := by decide +kernel
theorem dH_from_63 : decode (xb yyH_from) 63 = .ok (.ireturn, 1) := by decide +kernel
def fH_from_b40  (v1 : Int32) (m : xM) : Option (Int32 × xM) := (if v1 = 0 then (fW_become 0 1 m).bind fun r59 => some ((1 : Int32), r59) else (fW_become 0 2 m).bind fun r59 => some ((1 : Int32), r59))
def fH_from  (v1 : Int32) (m : xM) : Option (Int32 × xM) := (fH_within v1 (0 : Int32) (1 : Int32)).bind fun r3 => (if r3 = 0 then (fH_bad m).bind fun r10 => some (r10.1, r10.2) else (if v1 = 0 then (if (m.1 38 0) = 0 then (fH_no m).bind fun r36 => some (r36.1, r36.2) else fH_from_b40 v1 m) else (if (m.1 38 1) = 0 then (fH_no m).bind fun r36 => some (r36.1, r36.2) else fH_from_b40 v1 m)))
set_option maxRecDepth 100000 in
set_option maxHeartbeats 4000000 in
theorem kH_from_b40 (G : xG)   (z : xM)    (v1 : Int32) (m : xM) : xR G yyH_from (emic z) 40 [(0, .ref (xa G 81)), (1, .int v1)] [] (m, z) (fH_from_b40  v1 m) := by
  unfold fH_from_b40
  refine xR_aln 40 0 dH_from_40 rfl rfl ?_
  refine xR_getf 41 xcf6 0 81 (by decide) (by decide) rfl (v := .ref (xa G 77)) rfl fl_RX8_10 dH_from_41 ?_
  refine xR_iln 44 1 dH_from_44 rfl rfl ?_
  refine xR_ifne 45 55 dH_from_45 (by decide) ?_ ?_
  · refine xR_aln 55 0 dH_from_55 rfl rfl ?_
    refine xR_getf 56 xcf6 2 81 (by decide) (by decide) rfl (v := .ref (xa G 79)) rfl fl_RX8_19 dH_from_56 ?_
    refine xR_callVvc 59 cv_W_become ml_RX8_137 ⟨Nat.le_of_ble_eq_true rfl, Nat.le_of_ble_eq_true rfl⟩ xcf5 rfl 77 (by decide) (xC_twn (t := 0) (by decide)) [.ref (xa G 79)] rfl rfl (Nat.le_of_ble_eq_true rfl) dH_from_59 (kW_become G 0 2 (by decide) (by decide) z m) (fun r59 => ?_)
    refine xR_ic 62 (1 : Int32) dH_from_62 (by decide) ?_
    exact xR_iret 63 rfl rfl dH_from_63
  · refine xR_aln 48 0 dH_from_48 rfl rfl ?_
    refine xR_getf 49 xcf6 1 81 (by decide) (by decide) rfl (v := .ref (xa G 78)) rfl fl_RX8_16 dH_from_49 ?_
    refine xR_goto 52 59 dH_from_52 (by decide) ?_
    refine xR_callVvc 59 cv_W_become ml_RX8_137 ⟨Nat.le_of_ble_eq_true rfl, Nat.le_of_ble_eq_true rfl⟩ xcf5 rfl 77 (by decide) (xC_twn (t := 0) (by decide)) [.ref (xa G 78)] rfl rfl (Nat.le_of_ble_eq_true rfl) dH_from_59 (kW_become G 0 1 (by decide) (by decide) z m) (fun r59 => ?_)
    refine xR_ic 62 (1 : Int32) dH_from_62 (by decide) ?_
    exact xR_iret 63 rfl rfl dH_from_63
set_option maxRecDepth 100000 in
set_option maxHeartbeats 4000000 in
theorem kH_from (G : xG)   (z : xM) (m : xM) (v1 : Int32) : ∀ a, fH_from  v1 m = some a → xCt G yyH_from [.ref (xa G 81), .int v1] (m, z) (some (.int a.1)) (a.2, z) := by
  refine xR_ct (em := (emic z)) rfl (Nat.le_of_ble_eq_true rfl) ?_
  show xR G yyH_from _ 0 [(0, .ref (xa G 81)), (1, .int v1)] [] _ _
  unfold fH_from
  refine xR_iln 0 1 dH_from_0 rfl rfl ?_
  refine xR_ic 1 (0 : Int32) dH_from_1 (by decide) ?_
  refine xR_ic 2 (1 : Int32) dH_from_2 (by decide) ?_
  refine xR_callSi 3 cs_H_within ml_RX8_78 ⟨Nat.le_of_ble_eq_true rfl, Nat.le_of_ble_eq_true rfl⟩ [.int v1, .int (0 : Int32), .int (1 : Int32)] rfl rfl (Nat.le_of_ble_eq_true rfl) dH_from_3 (kH_within G (m, z) v1 (0 : Int32) (1 : Int32)) (fun r3 => ?_)
  refine xR_ifne 6 14 dH_from_6 (by decide) ?_ ?_
  · refine xR_iln 14 1 dH_from_14 rfl rfl ?_
    refine xR_ifne 15 28 dH_from_15 (by decide) ?_ ?_
    · refine xR_aln 28 0 dH_from_28 rfl rfl ?_
      refine xR_getf 29 xcf6 10 81 (by decide) (by decide) rfl (v := .int (m.1 38 1)) rfl fl_RX8_302 dH_from_29 ?_
      refine xR_ifne 32 40 dH_from_32 (by decide) ?_ ?_
      · exact kH_from_b40 G z v1 m
      · refine xR_aln 35 0 dH_from_35 rfl rfl ?_
        refine xR_callVic 36 cv_H_no ml_RX8_157 ⟨Nat.le_of_ble_eq_true rfl, Nat.le_of_ble_eq_true rfl⟩ xcf6 rfl 81 (by decide) rfl [] rfl rfl (Nat.le_of_ble_eq_true rfl) dH_from_36 (kH_no G z m) (fun r36 => ?_)
        exact xR_iret 39 rfl rfl dH_from_39
    · refine xR_aln 18 0 dH_from_18 rfl rfl ?_
      refine xR_getf 19 xcf6 9 81 (by decide) (by decide) rfl (v := .int (m.1 38 0)) rfl fl_RX8_298 dH_from_19 ?_
      refine xR_ifne 22 40 dH_from_22 (by decide) ?_ ?_
      · exact kH_from_b40 G z v1 m
      · refine xR_goto 25 35 dH_from_25 (by decide) ?_
        refine xR_aln 35 0 dH_from_35 rfl rfl ?_
        refine xR_callVic 36 cv_H_no ml_RX8_157 ⟨Nat.le_of_ble_eq_true rfl, Nat.le_of_ble_eq_true rfl⟩ xcf6 rfl 81 (by decide) rfl [] rfl rfl (Nat.le_of_ble_eq_true rfl) dH_from_36 (kH_no G z m) (fun r36 => ?_)
        exact xR_iret 39 rfl rfl dH_from_39
  · refine xR_aln 9 0 dH_from_9 rfl rfl ?_
    refine xR_callVic 10 cv_H_bad ml_RX8_82 ⟨Nat.le_of_ble_eq_true rfl, Nat.le_of_ble_eq_true rfl⟩ xcf6 rfl 81 (by decide) rfl [] rfl rfl (Nat.le_of_ble_eq_true rfl) dH_from_10 (kH_bad G z m) (fun r10 => ?_)
    exact xR_iret 13 rfl rfl dH_from_13
theorem dH_status_0 : decode (xb yyH_status) 0 = .ok (.iload_n 1, 1) := by decide +kernel
theorem dH_status_1 : decode (xb yyH_status) 1 = .ok (.tableswitch 42 0 2 #[27, 32, 37], 27) := by decide +kernel
theorem dH_status_28 : decode (xb yyH_status) 28 = .ok (.aload_n 0, 1) := by decide +kernel
theorem dH_status_29 : decode (xb yyH_status) 29 = .ok (.getfield 305, 3) := by decide +kernel
theorem dH_status_32 : decode (xb yyH_status) 32 = .ok (.ireturn, 1) := by decide +kernel
theorem dH_status_33 : decode (xb yyH_status) 33 = .ok (.aload_n 0, 1) := by decide +kernel
theorem dH_status_34 : decode (xb yyH_status) 34 = .ok (.getfield 308, 3) := by decide +kernel
theorem dH_status_37 : decode (xb yyH_status) 37 = .ok (.ireturn, 1) := by decide +kernel
theorem dH_status_38 : decode (xb yyH_status) 38 = .ok (.aload_n 0, 1) := by decide +kernel
theorem dH_status_39 : decode (xb yyH_status) 39 = .ok (.getfield 311, 3) := by decide +kernel
theorem dH_status_42 : decode (xb yyH_status) 42 = .ok (.ireturn, 1) := by decide +kernel
theorem dH_status_43 : decode (xb yyH_status) 43 = .ok (.aload_n 0, 1) := by decide +kernel
theorem dH_status_44 : decode (xb yyH_status) 44 = .ok (.iconst (-1), 1) := by decide +kernel
theorem dH_status_45 : decode (xb yyH_status) 45 = .ok (.invokevirtual 212, 3) := by decide +kernel
theorem dH_status_48 : decode (xb yyH_status) 48 = .ok (.ireturn, 1) := by decide +kernel
def fH_status  (v1 : Int32) (m : xM) : Option (Int32 × xM) := (if v1 = (0 : Int32) then some ((m.1 38 2), m) else (if v1 = (1 : Int32) then some ((m.1 38 3), m) else (if v1 = (2 : Int32) then some ((m.1 38 4), m) else (fH_badAs (-1 : Int32) m).bind fun r45 => some (r45.1, r45.2))))
set_option maxRecDepth 100000 in
set_option maxHeartbeats 4000000 in
theorem kH_status (G : xG)   (z : xM) (m : xM) (v1 : Int32) : ∀ a, fH_status  v1 m = some a → xCt G yyH_status [.ref (xa G 81), .int v1] (m, z) (some (.int a.1)) (a.2, z) := by
  refine xR_ct (em := (emic z)) rfl (Nat.le_of_ble_eq_true rfl) ?_
  show xR G yyH_status _ 0 [(0, .ref (xa G 81)), (1, .int v1)] [] _ _
  unfold fH_status
  refine xR_iln 0 1 dH_status_0 rfl rfl ?_
  refine xR_tsw 1 28 (0 : Int32) dH_status_1 (by decide) (by decide) rfl (by decide) ?_ (fun hs1_0 => ?_)
  · refine xR_aln 28 0 dH_status_28 rfl rfl ?_
    refine xR_getf 29 xcf6 13 81 (by decide) (by decide) rfl (v := .int (m.1 38 2)) rfl fl_RX8_305 dH_status_29 ?_
    exact xR_iret 32 rfl rfl dH_status_32
  refine xR_tsw 1 33 (1 : Int32) dH_status_1 (by decide) (by decide) rfl (by decide) ?_ (fun hs1_1 => ?_)
  · refine xR_aln 33 0 dH_status_33 rfl rfl ?_
    refine xR_getf 34 xcf6 14 81 (by decide) (by decide) rfl (v := .int (m.1 38 3)) rfl fl_RX8_308 dH_status_34 ?_
    exact xR_iret 37 rfl rfl dH_status_37
  refine xR_tsw 1 38 (2 : Int32) dH_status_1 (by decide) (by decide) rfl (by decide) ?_ (fun hs1_2 => ?_)
  · refine xR_aln 38 0 dH_status_38 rfl rfl ?_
    refine xR_getf 39 xcf6 15 81 (by decide) (by decide) rfl (v := .int (m.1 38 4)) rfl fl_RX8_311 dH_status_39 ?_
    exact xR_iret 42 rfl rfl dH_status_42
  refine xR_tso 1 43 dH_status_1 (by have e0 := lv_neT hs1_0 (a := 0) rfl; have e1 := lv_neT hs1_1 (a := 1) rfl; have e2 := lv_neT hs1_2 (a := 2) rfl; omega) (by decide) ?_
  refine xR_aln 43 0 dH_status_43 rfl rfl ?_
  refine xR_ic 44 (-1 : Int32) dH_status_44 (by decide) ?_
  refine xR_callVic 45 cv_H_badAs ml_RX8_212 ⟨Nat.le_of_ble_eq_true rfl, Nat.le_of_ble_eq_true rfl⟩ xcf6 rfl 81 (by decide) rfl [.int (-1 : Int32)] rfl rfl (Nat.le_of_ble_eq_true rfl) dH_status_45 (kH_badAs G z m (-1 : Int32)) (fun r45 => ?_)
  exact xR_iret 48 rfl rfl dH_status_48
theorem dH_count_0 : decode (xb yyH_count) 0 = .ok (.iload_n 1, 1) := by decide +kernel
theorem dH_count_1 : decode (xb yyH_count) 1 = .ok (.tableswitch 178 0 10 #[59, 70, 81, 92, 104, 115, 126, 137, 148, 159, 170], 59) := by decide +kernel
theorem dH_count_60 : decode (xb yyH_count) 60 = .ok (.aload_n 0, 1) := by decide +kernel
theorem dH_count_61 : decode (xb yyH_count) 61 = .ok (.getfield 10, 3) := by decide +kernel
theorem dH_count_64 : decode (xb yyH_count) 64 = .ok (.getfield 68, 3) := by decide +kernel
theorem dH_count_67 : decode (xb yyH_count) 67 = .ok (.invokevirtual 71, 3) := by decide +kernel
theorem dH_count_70 : decode (xb yyH_count) 70 = .ok (.ireturn, 1) := by decide +kernel
theorem dH_count_71 : decode (xb yyH_count) 71 = .ok (.aload_n 0, 1) := by decide +kernel
theorem dH_count_72 : decode (xb yyH_count) 72 = .ok (.getfield 10, 3) := by decide +kernel
theorem dH_count_75 : decode (xb yyH_count) 75 = .ok (.getfield 110, 3) := by decide +kernel
theorem dH_count_78 : decode (xb yyH_count) 78 = .ok (.invokevirtual 113, 3) := by decide +kernel
theorem dH_count_81 : decode (xb yyH_count) 81 = .ok (.ireturn, 1) := by decide +kernel
theorem dH_count_82 : decode (xb yyH_count) 82 = .ok (.aload_n 0, 1) := by decide +kernel
theorem dH_count_83 : decode (xb yyH_count) 83 = .ok (.getfield 10, 3) := by decide +kernel
theorem dH_count_86 : decode (xb yyH_count) 86 = .ok (.getfield 68, 3) := by decide +kernel
theorem dH_count_89 : decode (xb yyH_count) 89 = .ok (.getfield 169, 3) := by decide +kernel
theorem dH_count_92 : decode (xb yyH_count) 92 = .ok (.ireturn, 1) := by decide +kernel
theorem dH_count_93 : decode (xb yyH_count) 93 = .ok (.aload_n 0, 1) := by decide +kernel
theorem dH_count_94 : decode (xb yyH_count) 94 = .ok (.getfield 10, 3) := by decide +kernel
theorem dH_count_97 : decode (xb yyH_count) 97 = .ok (.getfield 68, 3) := by decide +kernel
theorem dH_count_100 : decode (xb yyH_count) 100 = .ok (.iconst (-1), 1) := by decide +kernel
theorem dH_count_101 : decode (xb yyH_count) 101 = .ok (.invokevirtual 160, 3) := by decide +kernel
theorem dH_count_104 : decode (xb yyH_count) 104 = .ok (.ireturn, 1) := by decide +kernel
theorem dH_count_105 : decode (xb yyH_count) 105 = .ok (.aload_n 0, 1) := by decide +kernel
theorem dH_count_106 : decode (xb yyH_count) 106 = .ok (.getfield 10, 3) := by decide +kernel
theorem dH_count_109 : decode (xb yyH_count) 109 = .ok (.getfield 68, 3) := by decide +kernel
theorem dH_count_112 : decode (xb yyH_count) 112 = .ok (.invokevirtual 148, 3) := by decide +kernel
theorem dH_count_115 : decode (xb yyH_count) 115 = .ok (.ireturn, 1) := by decide +kernel
theorem dH_count_116 : decode (xb yyH_count) 116 = .ok (.aload_n 0, 1) := by decide +kernel
theorem dH_count_117 : decode (xb yyH_count) 117 = .ok (.getfield 10, 3) := by decide +kernel
theorem dH_count_120 : decode (xb yyH_count) 120 = .ok (.getfield 68, 3) := by decide +kernel
theorem dH_count_123 : decode (xb yyH_count) 123 = .ok (.invokevirtual 314, 3) := by decide +kernel
theorem dH_count_126 : decode (xb yyH_count) 126 = .ok (.ireturn, 1) := by decide +kernel
theorem dH_count_127 : decode (xb yyH_count) 127 = .ok (.aload_n 0, 1) := by decide +kernel
theorem dH_count_128 : decode (xb yyH_count) 128 = .ok (.getfield 10, 3) := by decide +kernel
theorem dH_count_131 : decode (xb yyH_count) 131 = .ok (.getfield 234, 3) := by decide +kernel
theorem dH_count_134 : decode (xb yyH_count) 134 = .ok (.invokevirtual 113, 3) := by decide +kernel
theorem dH_count_137 : decode (xb yyH_count) 137 = .ok (.ireturn, 1) := by decide +kernel
theorem dH_count_138 : decode (xb yyH_count) 138 = .ok (.aload_n 0, 1) := by decide +kernel
theorem dH_count_139 : decode (xb yyH_count) 139 = .ok (.getfield 10, 3) := by decide +kernel
theorem dH_count_142 : decode (xb yyH_count) 142 = .ok (.getfield 243, 3) := by decide +kernel
theorem dH_count_145 : decode (xb yyH_count) 145 = .ok (.invokevirtual 113, 3) := by decide +kernel
theorem dH_count_148 : decode (xb yyH_count) 148 = .ok (.ireturn, 1) := by decide +kernel
theorem dH_count_149 : decode (xb yyH_count) 149 = .ok (.aload_n 0, 1) := by decide +kernel
theorem dH_count_150 : decode (xb yyH_count) 150 = .ok (.getfield 10, 3) := by decide +kernel
theorem dH_count_153 : decode (xb yyH_count) 153 = .ok (.getfield 246, 3) := by decide +kernel
theorem dH_count_156 : decode (xb yyH_count) 156 = .ok (.invokevirtual 113, 3) := by decide +kernel
theorem dH_count_159 : decode (xb yyH_count) 159 = .ok (.ireturn, 1) := by decide +kernel
theorem dH_count_160 : decode (xb yyH_count) 160 = .ok (.aload_n 0, 1) := by decide +kernel
theorem dH_count_161 : decode (xb yyH_count) 161 = .ok (.getfield 10, 3) := by decide +kernel
theorem dH_count_164 : decode (xb yyH_count) 164 = .ok (.getfield 95, 3) := by decide +kernel
theorem dH_count_167 : decode (xb yyH_count) 167 = .ok (.invokevirtual 113, 3) := by decide +kernel
theorem dH_count_170 : decode (xb yyH_count) 170 = .ok (.ireturn, 1) := by decide +kernel
theorem dH_count_171 : decode (xb yyH_count) 171 = .ok (.aload_n 0, 1) := by decide +kernel
theorem dH_count_172 : decode (xb yyH_count) 172 = .ok (.getfield 34, 3) := by decide +kernel
theorem dH_count_175 : decode (xb yyH_count) 175 = .ok (.invokevirtual 113, 3) := by decide +kernel
theorem dH_count_178 : decode (xb yyH_count) 178 = .ok (.ireturn, 1) := by decide +kernel
theorem dH_count_179 : decode (xb yyH_count) 179 = .ok (.aload_n 0, 1) := by decide +kernel
theorem dH_count_180 : decode (xb yyH_count) 180 = .ok (.invokevirtual 82, 3) := by decide +kernel
theorem dH_count_183 : decode (xb yyH_count) 183 = .ok (.ireturn, 1) := by decide +kernel
def fH_count  (v1 : Int32) (m : xM) : Option (Int32 × xM) := (if v1 = (0 : Int32) then (fB_many 0 m).bind fun r67 => some (r67, m) else (if v1 = (1 : Int32) then (fT_many 3 m).bind fun r78 => some (r78, m) else (if v1 = (2 : Int32) then some ((m.1 37 0), m) else (if v1 = (3 : Int32) then (fB_manyIn 0 m (-1 : Int32)).bind fun r101 => some (r101, m) else (if v1 = (4 : Int32) then (fB_wormy 0 m).bind fun r112 => some (r112, m) else (if v1 = (5 : Int32) then (fB_dampOfAll 0 m).bind fun r123 => some (r123, m) else (if v1 = (6 : Int32) then (fT_many 4 m).bind fun r134 => some (r134, m) else (if v1 = (7 : Int32) then (fT_many 5 m).bind fun r145 => some (r145, m) else (if v1 = (8 : Int32) then (fT_many 6 m).bind fun r156 => some (r156, m) else (if v1 = (9 : Int32) then (fT_many 1 m).bind fun r167 => some (r167, m) else (if v1 = (10 : Int32) then (fT_many 29 m).bind fun r175 => some (r175, m) else (fH_bad m).bind fun r180 => some (r180.1, r180.2))))))))))))
set_option maxRecDepth 100000 in
set_option maxHeartbeats 4000000 in
theorem kH_count (G : xG)   (z : xM) (m : xM) (v1 : Int32) : ∀ a, fH_count  v1 m = some a → xCt G yyH_count [.ref (xa G 81), .int v1] (m, z) (some (.int a.1)) (a.2, z) := by
  refine xR_ct (em := (emic z)) rfl (Nat.le_of_ble_eq_true rfl) ?_
  show xR G yyH_count _ 0 [(0, .ref (xa G 81)), (1, .int v1)] [] _ _
  unfold fH_count
  refine xR_iln 0 1 dH_count_0 rfl rfl ?_
  refine xR_tsw 1 60 (0 : Int32) dH_count_1 (by decide) (by decide) rfl (by decide) ?_ (fun hs1_0 => ?_)
  · refine xR_aln 60 0 dH_count_60 rfl rfl ?_
    refine xR_getf 61 xcf6 0 81 (by decide) (by decide) rfl (v := .ref (xa G 77)) rfl fl_RX8_10 dH_count_61 ?_
    refine xR_getf 64 xcf5 0 77 (by decide) (by decide) (xC_twn (t := 0) (by decide)) (v := .ref (xa G 72)) rfl fl_RX8_68 dH_count_64 ?_
    refine xR_callVi 67 cv_B_many ml_RX8_71 ⟨Nat.le_of_ble_eq_true rfl, Nat.le_of_ble_eq_true rfl⟩ xcf0 rfl 72 (by decide) (xC_brd (b := 0) (by decide)) [] rfl rfl (Nat.le_of_ble_eq_true rfl) dH_count_67 (kB_many G 0 (by decide) z m) (fun r67 => ?_)
    exact xR_iret 70 rfl rfl dH_count_70
  refine xR_tsw 1 71 (1 : Int32) dH_count_1 (by decide) (by decide) rfl (by decide) ?_ (fun hs1_1 => ?_)
  · refine xR_aln 71 0 dH_count_71 rfl rfl ?_
    refine xR_getf 72 xcf6 0 81 (by decide) (by decide) rfl (v := .ref (xa G 77)) rfl fl_RX8_10 dH_count_72 ?_
    refine xR_getf 75 xcf5 3 77 (by decide) (by decide) (xC_twn (t := 0) (by decide)) (v := .ref (xa G 39)) rfl fl_RX8_110 dH_count_75 ?_
    refine xR_callVi 78 cv_T_many ml_RX8_113 ⟨Nat.le_of_ble_eq_true rfl, Nat.le_of_ble_eq_true rfl⟩ xcf3 rfl 39 (by decide) (xC_tab (t := 3) (by decide)) [] rfl rfl (Nat.le_of_ble_eq_true rfl) dH_count_78 (kT_many G 3 (by decide) z m) (fun r78 => ?_)
    exact xR_iret 81 rfl rfl dH_count_81
  refine xR_tsw 1 82 (2 : Int32) dH_count_1 (by decide) (by decide) rfl (by decide) ?_ (fun hs1_2 => ?_)
  · refine xR_aln 82 0 dH_count_82 rfl rfl ?_
    refine xR_getf 83 xcf6 0 81 (by decide) (by decide) rfl (v := .ref (xa G 77)) rfl fl_RX8_10 dH_count_83 ?_
    refine xR_getf 86 xcf5 0 77 (by decide) (by decide) (xC_twn (t := 0) (by decide)) (v := .ref (xa G 72)) rfl fl_RX8_68 dH_count_86 ?_
    refine xR_getf 89 xcf0 1 72 (by decide) (by decide) (xC_brd (b := 0) (by decide)) (v := .int (m.1 37 0)) rfl fl_RX8_169 dH_count_89 ?_
    exact xR_iret 92 rfl rfl dH_count_92
  refine xR_tsw 1 93 (3 : Int32) dH_count_1 (by decide) (by decide) rfl (by decide) ?_ (fun hs1_3 => ?_)
  · refine xR_aln 93 0 dH_count_93 rfl rfl ?_
    refine xR_getf 94 xcf6 0 81 (by decide) (by decide) rfl (v := .ref (xa G 77)) rfl fl_RX8_10 dH_count_94 ?_
    refine xR_getf 97 xcf5 0 77 (by decide) (by decide) (xC_twn (t := 0) (by decide)) (v := .ref (xa G 72)) rfl fl_RX8_68 dH_count_97 ?_
    refine xR_ic 100 (-1 : Int32) dH_count_100 (by decide) ?_
    refine xR_callVi 101 cv_B_manyIn ml_RX8_160 ⟨Nat.le_of_ble_eq_true rfl, Nat.le_of_ble_eq_true rfl⟩ xcf0 rfl 72 (by decide) (xC_brd (b := 0) (by decide)) [.int (-1 : Int32)] rfl rfl (Nat.le_of_ble_eq_true rfl) dH_count_101 (kB_manyIn G 0 (by decide) z m (-1 : Int32)) (fun r101 => ?_)
    exact xR_iret 104 rfl rfl dH_count_104
  refine xR_tsw 1 105 (4 : Int32) dH_count_1 (by decide) (by decide) rfl (by decide) ?_ (fun hs1_4 => ?_)
  · refine xR_aln 105 0 dH_count_105 rfl rfl ?_
    refine xR_getf 106 xcf6 0 81 (by decide) (by decide) rfl (v := .ref (xa G 77)) rfl fl_RX8_10 dH_count_106 ?_
    refine xR_getf 109 xcf5 0 77 (by decide) (by decide) (xC_twn (t := 0) (by decide)) (v := .ref (xa G 72)) rfl fl_RX8_68 dH_count_109 ?_
    refine xR_callVi 112 cv_B_wormy ml_RX8_148 ⟨Nat.le_of_ble_eq_true rfl, Nat.le_of_ble_eq_true rfl⟩ xcf0 rfl 72 (by decide) (xC_brd (b := 0) (by decide)) [] rfl rfl (Nat.le_of_ble_eq_true rfl) dH_count_112 (kB_wormy G 0 (by decide) z m) (fun r112 => ?_)
    exact xR_iret 115 rfl rfl dH_count_115
  refine xR_tsw 1 116 (5 : Int32) dH_count_1 (by decide) (by decide) rfl (by decide) ?_ (fun hs1_5 => ?_)
  · refine xR_aln 116 0 dH_count_116 rfl rfl ?_
    refine xR_getf 117 xcf6 0 81 (by decide) (by decide) rfl (v := .ref (xa G 77)) rfl fl_RX8_10 dH_count_117 ?_
    refine xR_getf 120 xcf5 0 77 (by decide) (by decide) (xC_twn (t := 0) (by decide)) (v := .ref (xa G 72)) rfl fl_RX8_68 dH_count_120 ?_
    refine xR_callVi 123 cv_B_dampOfAll ml_RX8_314 ⟨Nat.le_of_ble_eq_true rfl, Nat.le_of_ble_eq_true rfl⟩ xcf0 rfl 72 (by decide) (xC_brd (b := 0) (by decide)) [] rfl rfl (Nat.le_of_ble_eq_true rfl) dH_count_123 (kB_dampOfAll G 0 (by decide) z m) (fun r123 => ?_)
    exact xR_iret 126 rfl rfl dH_count_126
  refine xR_tsw 1 127 (6 : Int32) dH_count_1 (by decide) (by decide) rfl (by decide) ?_ (fun hs1_6 => ?_)
  · refine xR_aln 127 0 dH_count_127 rfl rfl ?_
    refine xR_getf 128 xcf6 0 81 (by decide) (by decide) rfl (v := .ref (xa G 77)) rfl fl_RX8_10 dH_count_128 ?_
    refine xR_getf 131 xcf5 4 77 (by decide) (by decide) (xC_twn (t := 0) (by decide)) (v := .ref (xa G 40)) rfl fl_RX8_234 dH_count_131 ?_
    refine xR_callVi 134 cv_T_many ml_RX8_113 ⟨Nat.le_of_ble_eq_true rfl, Nat.le_of_ble_eq_true rfl⟩ xcf3 rfl 40 (by decide) (xC_tab (t := 4) (by decide)) [] rfl rfl (Nat.le_of_ble_eq_true rfl) dH_count_134 (kT_many G 4 (by decide) z m) (fun r134 => ?_)
    exact xR_iret 137 rfl rfl dH_count_137
  refine xR_tsw 1 138 (7 : Int32) dH_count_1 (by decide) (by decide) rfl (by decide) ?_ (fun hs1_7 => ?_)
  · refine xR_aln 138 0 dH_count_138 rfl rfl ?_
    refine xR_getf 139 xcf6 0 81 (by decide) (by decide) rfl (v := .ref (xa G 77)) rfl fl_RX8_10 dH_count_139 ?_
    refine xR_getf 142 xcf5 5 77 (by decide) (by decide) (xC_twn (t := 0) (by decide)) (v := .ref (xa G 41)) rfl fl_RX8_243 dH_count_142 ?_
    refine xR_callVi 145 cv_T_many ml_RX8_113 ⟨Nat.le_of_ble_eq_true rfl, Nat.le_of_ble_eq_true rfl⟩ xcf3 rfl 41 (by decide) (xC_tab (t := 5) (by decide)) [] rfl rfl (Nat.le_of_ble_eq_true rfl) dH_count_145 (kT_many G 5 (by decide) z m) (fun r145 => ?_)
    exact xR_iret 148 rfl rfl dH_count_148
  refine xR_tsw 1 149 (8 : Int32) dH_count_1 (by decide) (by decide) rfl (by decide) ?_ (fun hs1_8 => ?_)
  · refine xR_aln 149 0 dH_count_149 rfl rfl ?_
    refine xR_getf 150 xcf6 0 81 (by decide) (by decide) rfl (v := .ref (xa G 77)) rfl fl_RX8_10 dH_count_150 ?_
    refine xR_getf 153 xcf5 6 77 (by decide) (by decide) (xC_twn (t := 0) (by decide)) (v := .ref (xa G 42)) rfl fl_RX8_246 dH_count_153 ?_
    refine xR_callVi 156 cv_T_many ml_RX8_113 ⟨Nat.le_of_ble_eq_true rfl, Nat.le_of_ble_eq_true rfl⟩ xcf3 rfl 42 (by decide) (xC_tab (t := 6) (by decide)) [] rfl rfl (Nat.le_of_ble_eq_true rfl) dH_count_156 (kT_many G 6 (by decide) z m) (fun r156 => ?_)
    exact xR_iret 159 rfl rfl dH_count_159
  refine xR_tsw 1 160 (9 : Int32) dH_count_1 (by decide) (by decide) rfl (by decide) ?_ (fun hs1_9 => ?_)
  · refine xR_aln 160 0 dH_count_160 rfl rfl ?_
    refine xR_getf 161 xcf6 0 81 (by decide) (by decide) rfl (v := .ref (xa G 77)) rfl fl_RX8_10 dH_count_161 ?_
    refine xR_getf 164 xcf5 1 77 (by decide) (by decide) (xC_twn (t := 0) (by decide)) (v := .ref (xa G 37)) rfl fl_RX8_95 dH_count_164 ?_
    refine xR_callVi 167 cv_T_many ml_RX8_113 ⟨Nat.le_of_ble_eq_true rfl, Nat.le_of_ble_eq_true rfl⟩ xcf3 rfl 37 (by decide) (xC_tab (t := 1) (by decide)) [] rfl rfl (Nat.le_of_ble_eq_true rfl) dH_count_167 (kT_many G 1 (by decide) z m) (fun r167 => ?_)
    exact xR_iret 170 rfl rfl dH_count_170
  refine xR_tsw 1 171 (10 : Int32) dH_count_1 (by decide) (by decide) rfl (by decide) ?_ (fun hs1_10 => ?_)
  · refine xR_aln 171 0 dH_count_171 rfl rfl ?_
    refine xR_getf 172 xcf6 4 81 (by decide) (by decide) rfl (v := .ref (xa G 65)) rfl fl_RX8_34 dH_count_172 ?_
    refine xR_callVi 175 cv_T_many ml_RX8_113 ⟨Nat.le_of_ble_eq_true rfl, Nat.le_of_ble_eq_true rfl⟩ xcf3 rfl 65 (by decide) (xC_tab (t := 29) (by decide)) [] rfl rfl (Nat.le_of_ble_eq_true rfl) dH_count_175 (kT_many G 29 (by decide) z m) (fun r175 => ?_)
    exact xR_iret 178 rfl rfl dH_count_178
  refine xR_tso 1 179 dH_count_1 (by have e0 := lv_neT hs1_0 (a := 0) rfl; have e1 := lv_neT hs1_1 (a := 1) rfl; have e2 := lv_neT hs1_2 (a := 2) rfl; have e3 := lv_neT hs1_3 (a := 3) rfl; have e4 := lv_neT hs1_4 (a := 4) rfl; have e5 := lv_neT hs1_5 (a := 5) rfl; have e6 := lv_neT hs1_6 (a := 6) rfl; have e7 := lv_neT hs1_7 (a := 7) rfl; have e8 := lv_neT hs1_8 (a := 8) rfl; have e9 := lv_neT hs1_9 (a := 9) rfl; have e10 := lv_neT hs1_10 (a := 10) rfl; omega) (by decide) ?_
  refine xR_aln 179 0 dH_count_179 rfl rfl ?_
  refine xR_callVic 180 cv_H_bad ml_RX8_82 ⟨Nat.le_of_ble_eq_true rfl, Nat.le_of_ble_eq_true rfl⟩ xcf6 rfl 81 (by decide) rfl [] rfl rfl (Nat.le_of_ble_eq_true rfl) dH_count_180 (kH_bad G z m) (fun r180 => ?_)
  exact xR_iret 183 rfl rfl dH_count_183
theorem dH_digest_0 : decode (xb yyH_digest) 0 = .ok (.ldc2_w 317, 3) := by decide +kernel
theorem dH_digest_3 : decode (xb yyH_digest) 3 = .ok (.lstore_n 1, 1) := by decide +kernel
theorem dH_digest_4 : decode (xb yyH_digest) 4 = .ok (.iconst 0, 1) := by decide +kernel
theorem dH_digest_5 : decode (xb yyH_digest) 5 = .ok (.istore_n 3, 1) := by decide +kernel
theorem dH_digest_6 : decode (xb yyH_digest) 6 = .ok (.iload_n 3, 1) := by decide +kernel
theorem dH_digest_7 : decode (xb yyH_digest) 7 = .ok (.bipush 10, 2) := by decide +kernel
theorem dH_digest_9 : decode (xb yyH_digest) 9 = .ok (.if_icmp .gt 22, 3) := by decide +kernel
theorem dH_digest_12 : decode (xb yyH_digest) 12 = .ok (.ldc2_w 319, 3) := by decide +kernel
theorem dH_digest_15 : decode (xb yyH_digest) 15 = .ok (.lload_n 1, 1) := by decide +kernel
theorem dH_digest_16 : decode (xb yyH_digest) 16 = .ok (.lmul, 1) := by decide +kernel
theorem dH_digest_17 : decode (xb yyH_digest) 17 = .ok (.aload_n 0, 1) := by decide +kernel
theorem dH_digest_18 : decode (xb yyH_digest) 18 = .ok (.iload_n 3, 1) := by decide +kernel
theorem dH_digest_19 : decode (xb yyH_digest) 19 = .ok (.invokevirtual 321, 3) := by decide +kernel
theorem dH_digest_22 : decode (xb yyH_digest) 22 = .ok (.i2l, 1) := by decide +kernel
theorem dH_digest_23 : decode (xb yyH_digest) 23 = .ok (.ladd, 1) := by decide +kernel
theorem dH_digest_24 : decode (xb yyH_digest) 24 = .ok (.lstore_n 1, 1) := by decide +kernel
theorem dH_digest_25 : decode (xb yyH_digest) 25 = .ok (.iinc 3 1, 3) := by decide +kernel
theorem dH_digest_28 : decode (xb yyH_digest) 28 = .ok (.goto (-22), 3) := by decide +kernel
theorem dH_digest_31 : decode (xb yyH_digest) 31 = .ok (.aload_n 0, 1) := by decide +kernel
theorem dH_digest_32 : decode (xb yyH_digest) 32 = .ok (.getfield 10, 3) := by decide +kernel
theorem dH_digest_35 : decode (xb yyH_digest) 35 = .ok (.getfield 85, 3) := by decide +kernel
theorem dH_digest_38 : decode (xb yyH_digest) 38 = .ok (.lload_n 1, 1) := by decide +kernel
theorem dH_digest_39 : decode (xb yyH_digest) 39 = .ok (.invokevirtual 324, 3) := by decide +kernel
theorem dH_digest_42 : decode (xb yyH_digest) 42 = .ok (.lstore_n 1, 1) := by decide +kernel
theorem dH_digest_43 : decode (xb yyH_digest) 43 = .ok (.aload_n 0, 1) := by decide +kernel
theorem dH_digest_44 : decode (xb yyH_digest) 44 = .ok (.getfield 10, 3) := by decide +kernel
theorem dH_digest_47 : decode (xb yyH_digest) 47 = .ok (.getfield 68, 3) := by decide +kernel
theorem dH_digest_50 : decode (xb yyH_digest) 50 = .ok (.getfield 328, 3) := by decide +kernel
theorem dH_digest_53 : decode (xb yyH_digest) 53 = .ok (.lload_n 1, 1) := by decide +kernel
theorem dH_digest_54 : decode (xb yyH_digest) 54 = .ok (.invokevirtual 324, 3) := by decide +kernel
theorem dH_digest_57 : decode (xb yyH_digest) 57 = .ok (.lstore_n 1, 1) := by decide +kernel
theorem dH_digest_58 : decode (xb yyH_digest) 58 = .ok (.aload_n 0, 1) := by decide +kernel
theorem dH_digest_59 : decode (xb yyH_digest) 59 = .ok (.getfield 10, 3) := by decide +kernel
theorem dH_digest_62 : decode (xb yyH_digest) 62 = .ok (.getfield 110, 3) := by decide +kernel
theorem dH_digest_65 : decode (xb yyH_digest) 65 = .ok (.lload_n 1, 1) := by decide +kernel
theorem dH_digest_66 : decode (xb yyH_digest) 66 = .ok (.invokevirtual 324, 3) := by decide +kernel
theorem dH_digest_69 : decode (xb yyH_digest) 69 = .ok (.lstore_n 1, 1) := by decide +kernel
theorem dH_digest_70 : decode (xb yyH_digest) 70 = .ok (.aload_n 0, 1) := by decide +kernel
theorem dH_digest_71 : decode (xb yyH_digest) 71 = .ok (.getfield 10, 3) := by decide +kernel
theorem dH_digest_74 : decode (xb yyH_digest) 74 = .ok (.getfield 234, 3) := by decide +kernel
theorem dH_digest_77 : decode (xb yyH_digest) 77 = .ok (.lload_n 1, 1) := by decide +kernel
theorem dH_digest_78 : decode (xb yyH_digest) 78 = .ok (.invokevirtual 324, 3) := by decide +kernel
theorem dH_digest_81 : decode (xb yyH_digest) 81 = .ok (.lstore_n 1, 1) := by decide +kernel
theorem dH_digest_82 : decode (xb yyH_digest) 82 = .ok (.aload_n 0, 1) := by decide +kernel
theorem dH_digest_83 : decode (xb yyH_digest) 83 = .ok (.getfield 10, 3) := by decide +kernel
theorem dH_digest_86 : decode (xb yyH_digest) 86 = .ok (.getfield 243, 3) := by decide +kernel
theorem dH_digest_89 : decode (xb yyH_digest) 89 = .ok (.lload_n 1, 1) := by decide +kernel
theorem dH_digest_90 : decode (xb yyH_digest) 90 = .ok (.invokevirtual 324, 3) := by decide +kernel
theorem dH_digest_93 : decode (xb yyH_digest) 93 = .ok (.lstore_n 1, 1) := by decide +kernel
theorem dH_digest_94 : decode (xb yyH_digest) 94 = .ok (.aload_n 0, 1) := by decide +kernel
theorem dH_digest_95 : decode (xb yyH_digest) 95 = .ok (.getfield 10, 3) := by decide +kernel
theorem dH_digest_98 : decode (xb yyH_digest) 98 = .ok (.getfield 246, 3) := by decide +kernel
theorem dH_digest_101 : decode (xb yyH_digest) 101 = .ok (.lload_n 1, 1) := by decide +kernel
theorem dH_digest_102 : decode (xb yyH_digest) 102 = .ok (.invokevirtual 324, 3) := by decide +kernel
theorem dH_digest_105 : decode (xb yyH_digest) 105 = .ok (.lstore_n 1, 1) := by decide +kernel
theorem dH_digest_106 : decode (xb yyH_digest) 106 = .ok (.ldc2_w 319, 3) := by decide +kernel
theorem dH_digest_109 : decode (xb yyH_digest) 109 = .ok (.lload_n 1, 1) := by decide +kernel
theorem dH_digest_110 : decode (xb yyH_digest) 110 = .ok (.lmul, 1) := by decide +kernel
theorem dH_digest_111 : decode (xb yyH_digest) 111 = .ok (.aload_n 0, 1) := by decide +kernel
theorem dH_digest_112 : decode (xb yyH_digest) 112 = .ok (.getfield 295, 3) := by decide +kernel
theorem dH_digest_115 : decode (xb yyH_digest) 115 = .ok (.ladd, 1) := by decide +kernel
theorem dH_digest_116 : decode (xb yyH_digest) 116 = .ok (.lstore_n 1, 1) := by decide +kernel
theorem dH_digest_117 : decode (xb yyH_digest) 117 = .ok (.ldc2_w 319, 3) := by decide +kernel
theorem dH_digest_120 : decode (xb yyH_digest) 120 = .ok (.lload_n 1, 1) := by decide +kernel
theorem dH_digest_121 : decode (xb yyH_digest) 121 = .ok (.lmul, 1) := by decide +kernel
theorem dH_digest_122 : decode (xb yyH_digest) 122 = .ok (.aload_n 0, 1) := by decide +kernel
theorem dH_digest_123 : decode (xb yyH_digest) 123 = .ok (.getfield 64, 3) := by decide +kernel
theorem dH_digest_126 : decode (xb yyH_digest) 126 = .ok (.ladd, 1) := by decide +kernel
theorem dH_digest_127 : decode (xb yyH_digest) 127 = .ok (.lreturn, 1) := by decide +kernel
def fH_digest_l6  : Nat → Int64 → Int32 → xM → Option (Int64 × xM)
  | 0, _, _, _ => none
  | n + 1, v1, v3, m => (if (10 : Int32) < v3 then (fT_mixedInto 2 m v1).bind fun r39 => (fT_mixedInto 0 m r39).bind fun r54 => (fT_mixedInto 3 m r54).bind fun r66 => (fT_mixedInto 4 m r66).bind fun r78 => (fT_mixedInto 5 m r78).bind fun r90 => (fT_mixedInto 6 m r90).bind fun r102 => some ((((31 : Int64) * (((31 : Int64) * r102) + (m.2 0))) + (m.2 1)), m) else (fH_count v3 m).bind fun r19 => fH_digest_l6 n (((31 : Int64) * v1) + ((r19.1).toInt64)) (v3 + 1) r19.2)
def fH_digest  (m : xM) : Option (Int64 × xM) := fH_digest_l6 xfu (1523 : Int64) (0 : Int32) m
set_option maxRecDepth 100000 in
set_option maxHeartbeats 4000000 in
theorem kH_digest_l6 (G : xG)   (z : xM)    : ∀ (n : Nat) (v1 : Int64) (v3 : Int32) (m : xM), xR G yyH_digest (emlc z) 6 [(0, .ref (xa G 81)), (1, .long v1), (3, .int v3)] [] (m, z) (fH_digest_l6  n v1 v3 m) := by
  intro n
  induction n with
  | zero =>
    intro v1 v3 m
    rw [fH_digest_l6]
    exact xR_none
  | succ n ih =>
    intro v1 v3 m
    rw [fH_digest_l6]
    refine xR_iln 6 2 dH_digest_6 rfl rfl ?_
    refine xR_bp 7 (10 : Int32) dH_digest_7 (by decide) ?_
    refine xR_icgt 9 31 dH_digest_9 (by decide) ?_ ?_
    · refine xR_aln 31 0 dH_digest_31 rfl rfl ?_
      refine xR_getf 32 xcf6 0 81 (by decide) (by decide) rfl (v := .ref (xa G 77)) rfl fl_RX8_10 dH_digest_32 ?_
      refine xR_getf 35 xcf5 2 77 (by decide) (by decide) (xC_twn (t := 0) (by decide)) (v := .ref (xa G 38)) rfl fl_RX8_85 dH_digest_35 ?_
      refine xR_lln 38 1 dH_digest_38 rfl rfl ?_
      refine xR_callVl 39 cv_T_mixedInto ml_RX8_324 ⟨Nat.le_of_ble_eq_true rfl, Nat.le_of_ble_eq_true rfl⟩ xcf3 rfl 38 (by decide) (xC_tab (t := 2) (by decide)) [.long v1] rfl rfl (Nat.le_of_ble_eq_true rfl) dH_digest_39 (kT_mixedInto G 2 (by decide) z m v1) (fun r39 => ?_)
      refine xR_lsn 42 ([(1, .long r39), (0, .ref (xa G 81)), (3, .int v3)]) dH_digest_42 rfl (by decide) rfl ?_
      refine xR_aln 43 1 dH_digest_43 rfl rfl ?_
      refine xR_getf 44 xcf6 0 81 (by decide) (by decide) rfl (v := .ref (xa G 77)) rfl fl_RX8_10 dH_digest_44 ?_
      refine xR_getf 47 xcf5 0 77 (by decide) (by decide) (xC_twn (t := 0) (by decide)) (v := .ref (xa G 72)) rfl fl_RX8_68 dH_digest_47 ?_
      refine xR_getf 50 xcf0 0 72 (by decide) (by decide) (xC_brd (b := 0) (by decide)) (v := .ref (xa G 36)) rfl fl_RX8_328 dH_digest_50 ?_
      refine xR_lln 53 0 dH_digest_53 rfl rfl ?_
      refine xR_callVl 54 cv_T_mixedInto ml_RX8_324 ⟨Nat.le_of_ble_eq_true rfl, Nat.le_of_ble_eq_true rfl⟩ xcf3 rfl 36 (by decide) (xC_tab (t := 0) (by decide)) [.long r39] rfl rfl (Nat.le_of_ble_eq_true rfl) dH_digest_54 (kT_mixedInto G 0 (by decide) z m r39) (fun r54 => ?_)
      refine xR_lsn 57 ([(1, .long r54), (0, .ref (xa G 81)), (3, .int v3)]) dH_digest_57 rfl (by decide) rfl ?_
      refine xR_aln 58 1 dH_digest_58 rfl rfl ?_
      refine xR_getf 59 xcf6 0 81 (by decide) (by decide) rfl (v := .ref (xa G 77)) rfl fl_RX8_10 dH_digest_59 ?_
      refine xR_getf 62 xcf5 3 77 (by decide) (by decide) (xC_twn (t := 0) (by decide)) (v := .ref (xa G 39)) rfl fl_RX8_110 dH_digest_62 ?_
      refine xR_lln 65 0 dH_digest_65 rfl rfl ?_
      refine xR_callVl 66 cv_T_mixedInto ml_RX8_324 ⟨Nat.le_of_ble_eq_true rfl, Nat.le_of_ble_eq_true rfl⟩ xcf3 rfl 39 (by decide) (xC_tab (t := 3) (by decide)) [.long r54] rfl rfl (Nat.le_of_ble_eq_true rfl) dH_digest_66 (kT_mixedInto G 3 (by decide) z m r54) (fun r66 => ?_)
      refine xR_lsn 69 ([(1, .long r66), (0, .ref (xa G 81)), (3, .int v3)]) dH_digest_69 rfl (by decide) rfl ?_
      refine xR_aln 70 1 dH_digest_70 rfl rfl ?_
      refine xR_getf 71 xcf6 0 81 (by decide) (by decide) rfl (v := .ref (xa G 77)) rfl fl_RX8_10 dH_digest_71 ?_
      refine xR_getf 74 xcf5 4 77 (by decide) (by decide) (xC_twn (t := 0) (by decide)) (v := .ref (xa G 40)) rfl fl_RX8_234 dH_digest_74 ?_
      refine xR_lln 77 0 dH_digest_77 rfl rfl ?_
      refine xR_callVl 78 cv_T_mixedInto ml_RX8_324 ⟨Nat.le_of_ble_eq_true rfl, Nat.le_of_ble_eq_true rfl⟩ xcf3 rfl 40 (by decide) (xC_tab (t := 4) (by decide)) [.long r66] rfl rfl (Nat.le_of_ble_eq_true rfl) dH_digest_78 (kT_mixedInto G 4 (by decide) z m r66) (fun r78 => ?_)
      refine xR_lsn 81 ([(1, .long r78), (0, .ref (xa G 81)), (3, .int v3)]) dH_digest_81 rfl (by decide) rfl ?_
      refine xR_aln 82 1 dH_digest_82 rfl rfl ?_
      refine xR_getf 83 xcf6 0 81 (by decide) (by decide) rfl (v := .ref (xa G 77)) rfl fl_RX8_10 dH_digest_83 ?_
      refine xR_getf 86 xcf5 5 77 (by decide) (by decide) (xC_twn (t := 0) (by decide)) (v := .ref (xa G 41)) rfl fl_RX8_243 dH_digest_86 ?_
      refine xR_lln 89 0 dH_digest_89 rfl rfl ?_
      refine xR_callVl 90 cv_T_mixedInto ml_RX8_324 ⟨Nat.le_of_ble_eq_true rfl, Nat.le_of_ble_eq_true rfl⟩ xcf3 rfl 41 (by decide) (xC_tab (t := 5) (by decide)) [.long r78] rfl rfl (Nat.le_of_ble_eq_true rfl) dH_digest_90 (kT_mixedInto G 5 (by decide) z m r78) (fun r90 => ?_)
      refine xR_lsn 93 ([(1, .long r90), (0, .ref (xa G 81)), (3, .int v3)]) dH_digest_93 rfl (by decide) rfl ?_
      refine xR_aln 94 1 dH_digest_94 rfl rfl ?_
      refine xR_getf 95 xcf6 0 81 (by decide) (by decide) rfl (v := .ref (xa G 77)) rfl fl_RX8_10 dH_digest_95 ?_
      refine xR_getf 98 xcf5 6 77 (by decide) (by decide) (xC_twn (t := 0) (by decide)) (v := .ref (xa G 42)) rfl fl_RX8_246 dH_digest_98 ?_
      refine xR_lln 101 0 dH_digest_101 rfl rfl ?_
      refine xR_callVl 102 cv_T_mixedInto ml_RX8_324 ⟨Nat.le_of_ble_eq_true rfl, Nat.le_of_ble_eq_true rfl⟩ xcf3 rfl 42 (by decide) (xC_tab (t := 6) (by decide)) [.long r90] rfl rfl (Nat.le_of_ble_eq_true rfl) dH_digest_102 (kT_mixedInto G 6 (by decide) z m r90) (fun r102 => ?_)
      refine xR_lsn 105 ([(1, .long r102), (0, .ref (xa G 81)), (3, .int v3)]) dH_digest_105 rfl (by decide) rfl ?_
      refine xR_ldc2 106 cl_RX8_319 dH_digest_106 ?_
      refine xR_lln 109 0 dH_digest_109 rfl rfl ?_
      refine xR_lmul 110 dH_digest_110 ?_
      refine xR_aln 111 1 dH_digest_111 rfl rfl ?_
      refine xR_getf 112 xcf6 11 81 (by decide) (by decide) rfl (v := .long (m.2 0)) rfl fl_RX8_295 dH_digest_112 ?_
      refine xR_ladd 115 dH_digest_115 ?_
      refine xR_lsn 116 ([(1, .long (((31 : Int64) * r102) + (m.2 0))), (0, .ref (xa G 81)), (3, .int v3)]) dH_digest_116 rfl (by decide) rfl ?_
      refine xR_ldc2 117 cl_RX8_319 dH_digest_117 ?_
      refine xR_lln 120 0 dH_digest_120 rfl rfl ?_
      refine xR_lmul 121 dH_digest_121 ?_
      refine xR_aln 122 1 dH_digest_122 rfl rfl ?_
      refine xR_getf 123 xcf6 12 81 (by decide) (by decide) rfl (v := .long (m.2 1)) rfl fl_RX8_64 dH_digest_123 ?_
      refine xR_ladd 126 dH_digest_126 ?_
      exact xR_lret 127 rfl rfl dH_digest_127
    · refine xR_ldc2 12 cl_RX8_319 dH_digest_12 ?_
      refine xR_lln 15 1 dH_digest_15 rfl rfl ?_
      refine xR_lmul 16 dH_digest_16 ?_
      refine xR_aln 17 0 dH_digest_17 rfl rfl ?_
      refine xR_iln 18 2 dH_digest_18 rfl rfl ?_
      refine xR_callVic 19 cv_H_count ml_RX8_321 ⟨Nat.le_of_ble_eq_true rfl, Nat.le_of_ble_eq_true rfl⟩ xcf6 rfl 81 (by decide) rfl [.int v3] rfl rfl (Nat.le_of_ble_eq_true rfl) dH_digest_19 (kH_count G z m v3) (fun r19 => ?_)
      refine xR_i2l 22 dH_digest_22 ?_
      refine xR_ladd 23 dH_digest_23 ?_
      refine xR_lsn 24 ([(1, .long (((31 : Int64) * v1) + ((r19.1).toInt64))), (0, .ref (xa G 81)), (3, .int v3)]) dH_digest_24 rfl (by decide) rfl ?_
      refine xR_iinc 25 2 (v3 + 1) ([(3, .int (v3 + 1)), (1, .long (((31 : Int64) * v1) + ((r19.1).toInt64))), (0, .ref (xa G 81))]) dH_digest_25 rfl rfl (by decide) rfl ?_
      refine xR_goto 28 6 dH_digest_28 (by decide) ?_
      exact xR_sub [2, 1, 0] rfl (ih (((31 : Int64) * v1) + ((r19.1).toInt64)) (v3 + 1) r19.2)
set_option maxRecDepth 100000 in
set_option maxHeartbeats 4000000 in
theorem kH_digest (G : xG)   (z : xM) (m : xM) : ∀ a, fH_digest  m = some a → xCt G yyH_digest [.ref (xa G 81)] (m, z) (some (.long a.1)) (a.2, z) := by
  refine xR_ct (em := (emlc z)) rfl (Nat.le_of_ble_eq_true rfl) ?_
  show xR G yyH_digest _ 0 [(0, .ref (xa G 81))] [] _ _
  unfold fH_digest
  refine xR_ldc2 0 cl_RX8_317 dH_digest_0 ?_
  refine xR_lsn 3 ([(1, .long (1523 : Int64)), (0, .ref (xa G 81))]) dH_digest_3 rfl (by decide) rfl ?_
  refine xR_ic 4 (0 : Int32) dH_digest_4 (by decide) ?_
  refine xR_isn 5 ([(3, .int (0 : Int32)), (1, .long (1523 : Int64)), (0, .ref (xa G 81))]) dH_digest_5 rfl (by decide) rfl ?_
  exact xR_sub [2, 1, 0] rfl (kH_digest_l6 G z xfu (1523 : Int64) (0 : Int32) m)
