theorem dM_readsItem_0 : decode (xb yyM_readsItem) 0 = .ok (.aload_n 0, 1) := by decide +kernel
theorem dM_readsItem_1 : decode (xb yyM_readsItem) 1 = .ok (.invokevirtual 133, 3) := by decide +kernel
theorem dM_readsItem_4 : decode (xb yyM_readsItem) 4 = .ok (.aload_n 0, 1) := by decide +kernel
theorem dM_readsItem_5 : decode (xb yyM_readsItem) 5 = .ok (.invokevirtual 136, 3) := by decide +kernel
theorem dM_readsItem_8 : decode (xb yyM_readsItem) 8 = .ok (.istore_n 2, 1) := by decide +kernel
theorem dM_readsItem_9 : decode (xb yyM_readsItem) 9 = .ok (.iload_n 1, 1) := by decide +kernel
theorem dM_readsItem_10 : decode (xb yyM_readsItem) 10 = .ok (.iload_n 2, 1) := by decide +kernel
theorem dM_readsItem_11 : decode (xb yyM_readsItem) 11 = .ok (.iconst 1, 1) := by decide +kernel
theorem dM_readsItem_12 : decode (xb yyM_readsItem) 12 = .ok (.if_icmp .ne 7, 3) := by decide +kernel
theorem dM_readsItem_15 : decode (xb yyM_readsItem) 15 = .ok (.iconst 1, 1) := by decide +kernel
theorem dM_readsItem_16 : decode (xb yyM_readsItem) 16 = .ok (.goto 4, 3) := by decide +kernel
theorem dM_readsItem_19 : decode (xb yyM_readsItem) 19 = .ok (.iconst 0, 1) := by decide +kernel
theorem dM_readsItem_20 : decode (xb yyM_readsItem) 20 = .ok (.if_icmp .eq 5, 3) := by decide +kernel
theorem dM_readsItem_23 : decode (xb yyM_readsItem) 23 = .ok (.iconst 0, 1) := by decide +kernel
theorem dM_readsItem_24 : decode (xb yyM_readsItem) 24 = .ok (.ireturn, 1) := by decide +kernel
theorem dM_readsItem_25 : decode (xb yyM_readsItem) 25 = .ok (.iload_n 2, 1) := by decide +kernel
theorem dM_readsItem_26 : decode (xb yyM_readsItem) 26 = .ok (.iconst 1, 1) := by decide +kernel
theorem dM_readsItem_27 : decode (xb yyM_readsItem) 27 = .ok (.if_icmp .eq 92, 3) := by decide +kernel
theorem dM_readsItem_30 : decode (xb yyM_readsItem) 30 = .ok (.iload_n 2, 1) := by decide +kernel
theorem dM_readsItem_31 : decode (xb yyM_readsItem) 31 = .ok (.iconst 2, 1) := by decide +kernel
theorem dM_readsItem_32 : decode (xb yyM_readsItem) 32 = .ok (.if_icmp .ne 13, 3) := by decide +kernel
theorem dM_readsItem_35 : decode (xb yyM_readsItem) 35 = .ok (.aload_n 0, 1) := by decide +kernel
theorem dM_readsItem_36 : decode (xb yyM_readsItem) 36 = .ok (.invokevirtual 139, 3) := by decide +kernel
theorem dM_readsItem_39 : decode (xb yyM_readsItem) 39 = .ok (.ifCond .eq 84, 3) := by decide +kernel
theorem dM_readsItem_42 : decode (xb yyM_readsItem) 42 = .ok (.goto 77, 3) := by decide +kernel
theorem dM_readsItem_45 : decode (xb yyM_readsItem) 45 = .ok (.iload_n 2, 1) := by decide +kernel
theorem dM_readsItem_46 : decode (xb yyM_readsItem) 46 = .ok (.iconst 3, 1) := by decide +kernel
theorem dM_readsItem_47 : decode (xb yyM_readsItem) 47 = .ok (.if_icmp .ne 13, 3) := by decide +kernel
theorem dM_readsItem_50 : decode (xb yyM_readsItem) 50 = .ok (.aload_n 0, 1) := by decide +kernel
theorem dM_readsItem_51 : decode (xb yyM_readsItem) 51 = .ok (.invokevirtual 143, 3) := by decide +kernel
theorem dM_readsItem_54 : decode (xb yyM_readsItem) 54 = .ok (.ifCond .eq 69, 3) := by decide +kernel
theorem dM_readsItem_57 : decode (xb yyM_readsItem) 57 = .ok (.goto 62, 3) := by decide +kernel
theorem dM_readsItem_60 : decode (xb yyM_readsItem) 60 = .ok (.iload_n 2, 1) := by decide +kernel
theorem dM_readsItem_61 : decode (xb yyM_readsItem) 61 = .ok (.iconst 4, 1) := by decide +kernel
theorem dM_readsItem_62 : decode (xb yyM_readsItem) 62 = .ok (.if_icmp .ne 13, 3) := by decide +kernel
theorem dM_readsItem_65 : decode (xb yyM_readsItem) 65 = .ok (.aload_n 0, 1) := by decide +kernel
theorem dM_readsItem_66 : decode (xb yyM_readsItem) 66 = .ok (.invokevirtual 146, 3) := by decide +kernel
theorem dM_readsItem_69 : decode (xb yyM_readsItem) 69 = .ok (.ifCond .eq 54, 3) := by decide +kernel
theorem dM_readsItem_72 : decode (xb yyM_readsItem) 72 = .ok (.goto 47, 3) := by decide +kernel
theorem dM_readsItem_75 : decode (xb yyM_readsItem) 75 = .ok (.iload_n 2, 1) := by decide +kernel
theorem dM_readsItem_76 : decode (xb yyM_readsItem) 76 = .ok (.iconst 5, 1) := by decide +kernel
theorem dM_readsItem_77 : decode (xb yyM_readsItem) 77 = .ok (.if_icmp .ne 13, 3) := by decide +kernel
theorem dM_readsItem_80 : decode (xb yyM_readsItem) 80 = .ok (.aload_n 0, 1) := by decide +kernel
theorem dM_readsItem_81 : decode (xb yyM_readsItem) 81 = .ok (.invokevirtual 149, 3) := by decide +kernel
theorem dM_readsItem_84 : decode (xb yyM_readsItem) 84 = .ok (.ifCond .eq 39, 3) := by decide +kernel
theorem dM_readsItem_87 : decode (xb yyM_readsItem) 87 = .ok (.goto 32, 3) := by decide +kernel
theorem dM_readsItem_90 : decode (xb yyM_readsItem) 90 = .ok (.iload_n 2, 1) := by decide +kernel
theorem dM_readsItem_91 : decode (xb yyM_readsItem) 91 = .ok (.bipush 6, 2) := by decide +kernel
theorem dM_readsItem_93 : decode (xb yyM_readsItem) 93 = .ok (.if_icmp .ne 13, 3) := by decide +kernel
theorem dM_readsItem_96 : decode (xb yyM_readsItem) 96 = .ok (.aload_n 0, 1) := by decide +kernel
theorem dM_readsItem_97 : decode (xb yyM_readsItem) 97 = .ok (.invokevirtual 152, 3) := by decide +kernel
theorem dM_readsItem_100 : decode (xb yyM_readsItem) 100 = .ok (.ifCond .eq 23, 3) := by decide +kernel
theorem dM_readsItem_103 : decode (xb yyM_readsItem) 103 = .ok (.goto 16, 3) := by decide +kernel
theorem dM_readsItem_106 : decode (xb yyM_readsItem) 106 = .ok (.iload_n 2, 1) := by decide +kernel
theorem dM_readsItem_107 : decode (xb yyM_readsItem) 107 = .ok (.bipush 7, 2) := by decide +kernel
theorem dM_readsItem_109 : decode (xb yyM_readsItem) 109 = .ok (.if_icmp .ne 14, 3) := by decide +kernel
theorem dM_readsItem_112 : decode (xb yyM_readsItem) 112 = .ok (.aload_n 0, 1) := by decide +kernel
theorem dM_readsItem_113 : decode (xb yyM_readsItem) 113 = .ok (.invokevirtual 155, 3) := by decide +kernel
theorem dM_readsItem_116 : decode (xb yyM_readsItem) 116 = .ok (.ifCond .eq 7, 3) := by decide +kernel
theorem dM_readsItem_119 : decode (xb yyM_readsItem) 119 = .ok (.iconst 1, 1) := by decide +kernel
theorem dM_readsItem_120 : decode (xb yyM_readsItem) 120 = .ok (.goto 4, 3) := by decide +kernel
theorem dM_readsItem_123 : decode (xb yyM_readsItem) 123 = .ok (.iconst 0, 1) := by decide +kernel
theorem dM_readsItem_124 : decode (xb yyM_readsItem) 124 = .ok (.istore_n 3, 1) := by decide +kernel
theorem dM_readsItem_125 : decode (xb yyM_readsItem) 125 = .ok (.iload_n 3, 1) := by decide +kernel
theorem dM_readsItem_126 : decode (xb yyM_readsItem) 126 = .ok (.ifCond .eq 14, 3) := by decide +kernel
theorem dM_readsItem_129 : decode (xb yyM_readsItem) 129 = .ok (.aload_n 0, 1) := by decide +kernel
theorem dM_readsItem_130 : decode (xb yyM_readsItem) 130 = .ok (.invokevirtual 158, 3) := by decide +kernel
theorem dM_readsItem_133 : decode (xb yyM_readsItem) 133 = .ok (.ifCond .eq 7, 3) := by decide +kernel
theorem dM_readsItem_136 : decode (xb yyM_readsItem) 136 = .ok (.iconst 1, 1) := by decide +kernel
theorem dM_readsItem_137 : decode (xb yyM_readsItem) 137 = .ok (.goto 4, 3) := by decide +kernel
theorem dM_readsItem_140 : decode (xb yyM_readsItem) 140 = .ok (.iconst 0, 1) := by decide +kernel
theorem dM_readsItem_141 : decode (xb yyM_readsItem) 141 = .ok (.ireturn, 1) := by decide +kernel
def fM_readsItem_b124  (s0 : Int32) (m : xM) : Option (Int32 × xM) := (if s0 = 0 then some ((xnb (0 : Int32)), m) else (fM_takesEnd m).bind fun r130 => (if r130.1 = 0 then some ((xnb (0 : Int32)), r130.2) else some ((xnb (1 : Int32)), r130.2)))
def fM_readsItem_b119  (m : xM) : Option (Int32 × xM) := fM_readsItem_b124 (1 : Int32) m
def fM_readsItem_b123  (m : xM) : Option (Int32 × xM) := fM_readsItem_b124 (0 : Int32) m
def fM_readsItem_b20  (v2 : Int32) (s0 : Int32) (s1 : Int32) (m : xM) : Option (Int32 × xM) := (if s1 = s0 then (if v2 = (1 : Int32) then fM_readsItem_b119 m else (if v2 = (2 : Int32) then (fM_readsWet m).bind fun r36 => (if r36.1 = 0 then fM_readsItem_b123 r36.2 else fM_readsItem_b119 r36.2) else (if v2 = (3 : Int32) then (fM_readsBoard m).bind fun r51 => (if r51.1 = 0 then fM_readsItem_b123 r51.2 else fM_readsItem_b119 r51.2) else (if v2 = (4 : Int32) then (fM_readsMake m).bind fun r66 => (if r66.1 = 0 then fM_readsItem_b123 r66.2 else fM_readsItem_b119 r66.2) else (if v2 = (5 : Int32) then (fM_readsCut m).bind fun r81 => (if r81.1 = 0 then fM_readsItem_b123 r81.2 else fM_readsItem_b119 r81.2) else (if v2 = (6 : Int32) then (fM_readsWorm m).bind fun r97 => (if r97.1 = 0 then fM_readsItem_b123 r97.2 else fM_readsItem_b119 r97.2) else (if v2 = (7 : Int32) then (fM_readsYears m).bind fun r113 => (if r113.1 = 0 then fM_readsItem_b123 r113.2 else fM_readsItem_b119 r113.2) else fM_readsItem_b123 m))))))) else some ((xnb (0 : Int32)), m))
def fM_readsItem  (v1 : Int32) (m : xM) : Option (Int32 × xM) := (fM_takesWord m).bind fun r1 => (fM_wordOf r1).bind fun r5 => (if r5 = (1 : Int32) then fM_readsItem_b20 r5 (1 : Int32) v1 r1 else fM_readsItem_b20 r5 (0 : Int32) v1 r1)
set_option maxRecDepth 100000 in
set_option maxHeartbeats 4000000 in
theorem kM_readsItem_b124 (G : xG)   (z : xM)    (s0 : Int32) (m : xM) : xR G yyM_readsItem (emim z) 124 [(0, .ref (xa G 85))] [.int s0] (z, m) (fM_readsItem_b124  s0 m) := by
  unfold fM_readsItem_b124
  refine xR_isn 124 ([(3, .int s0), (0, .ref (xa G 85))]) dM_readsItem_124 rfl (by decide) rfl ?_
  refine xR_iln 125 0 dM_readsItem_125 rfl rfl ?_
  refine xR_ifeq 126 140 dM_readsItem_126 (by decide) ?_ ?_
  · refine xR_ic 140 (0 : Int32) dM_readsItem_140 (by decide) ?_
    exact xR_zret 141 rfl rfl dM_readsItem_141
  · refine xR_aln 129 1 dM_readsItem_129 rfl rfl ?_
    refine xR_callVim 130 cv_M_takesEnd ml_RX9_158 ⟨Nat.le_of_ble_eq_true rfl, Nat.le_of_ble_eq_true rfl⟩ xcf7 rfl 85 (by decide) rfl [] rfl rfl (Nat.le_of_ble_eq_true rfl) dM_readsItem_130 (kM_takesEnd G z m) (fun r130 => ?_)
    refine xR_ifeq 133 140 dM_readsItem_133 (by decide) ?_ ?_
    · refine xR_ic 140 (0 : Int32) dM_readsItem_140 (by decide) ?_
      exact xR_zret 141 rfl rfl dM_readsItem_141
    · refine xR_ic 136 (1 : Int32) dM_readsItem_136 (by decide) ?_
      refine xR_goto 137 141 dM_readsItem_137 (by decide) ?_
      exact xR_zret 141 rfl rfl dM_readsItem_141
set_option maxRecDepth 100000 in
set_option maxHeartbeats 4000000 in
theorem kM_readsItem_b119 (G : xG)   (z : xM)    (m : xM) : xR G yyM_readsItem (emim z) 119 [(0, .ref (xa G 85))] [] (z, m) (fM_readsItem_b119  m) := by
  unfold fM_readsItem_b119
  refine xR_ic 119 (1 : Int32) dM_readsItem_119 (by decide) ?_
  refine xR_goto 120 124 dM_readsItem_120 (by decide) ?_
  exact kM_readsItem_b124 G z (1 : Int32) m
set_option maxRecDepth 100000 in
set_option maxHeartbeats 4000000 in
theorem kM_readsItem_b123 (G : xG)   (z : xM)    (m : xM) : xR G yyM_readsItem (emim z) 123 [(0, .ref (xa G 85))] [] (z, m) (fM_readsItem_b123  m) := by
  unfold fM_readsItem_b123
  refine xR_ic 123 (0 : Int32) dM_readsItem_123 (by decide) ?_
  exact kM_readsItem_b124 G z (0 : Int32) m
set_option maxRecDepth 100000 in
set_option maxHeartbeats 4000000 in
theorem kM_readsItem_b20 (G : xG)   (z : xM)    (v2 : Int32) (s0 : Int32) (s1 : Int32) (m : xM) : xR G yyM_readsItem (emim z) 20 [(0, .ref (xa G 85)), (2, .int v2)] [.int s0, .int s1] (z, m) (fM_readsItem_b20  v2 s0 s1 m) := by
  unfold fM_readsItem_b20
  refine xR_iceq 20 25 dM_readsItem_20 (by decide) ?_ ?_
  · refine xR_iln 25 1 dM_readsItem_25 rfl rfl ?_
    refine xR_ic 26 (1 : Int32) dM_readsItem_26 (by decide) ?_
    refine xR_iceq 27 119 dM_readsItem_27 (by decide) ?_ ?_
    · exact xR_sub [0] rfl (kM_readsItem_b119 G z m)
    · refine xR_iln 30 1 dM_readsItem_30 rfl rfl ?_
      refine xR_ic 31 (2 : Int32) dM_readsItem_31 (by decide) ?_
      refine xR_icne 32 45 dM_readsItem_32 (by decide) ?_ ?_
      · refine xR_iln 45 1 dM_readsItem_45 rfl rfl ?_
        refine xR_ic 46 (3 : Int32) dM_readsItem_46 (by decide) ?_
        refine xR_icne 47 60 dM_readsItem_47 (by decide) ?_ ?_
        · refine xR_iln 60 1 dM_readsItem_60 rfl rfl ?_
          refine xR_ic 61 (4 : Int32) dM_readsItem_61 (by decide) ?_
          refine xR_icne 62 75 dM_readsItem_62 (by decide) ?_ ?_
          · refine xR_iln 75 1 dM_readsItem_75 rfl rfl ?_
            refine xR_ic 76 (5 : Int32) dM_readsItem_76 (by decide) ?_
            refine xR_icne 77 90 dM_readsItem_77 (by decide) ?_ ?_
            · refine xR_iln 90 1 dM_readsItem_90 rfl rfl ?_
              refine xR_bp 91 (6 : Int32) dM_readsItem_91 (by decide) ?_
              refine xR_icne 93 106 dM_readsItem_93 (by decide) ?_ ?_
              · refine xR_iln 106 1 dM_readsItem_106 rfl rfl ?_
                refine xR_bp 107 (7 : Int32) dM_readsItem_107 (by decide) ?_
                refine xR_icne 109 123 dM_readsItem_109 (by decide) ?_ ?_
                · exact xR_sub [0] rfl (kM_readsItem_b123 G z m)
                · refine xR_aln 112 0 dM_readsItem_112 rfl rfl ?_
                  refine xR_callVim 113 cv_M_readsYears ml_RX9_155 ⟨Nat.le_of_ble_eq_true rfl, Nat.le_of_ble_eq_true rfl⟩ xcf7 rfl 85 (by decide) rfl [] rfl rfl (Nat.le_of_ble_eq_true rfl) dM_readsItem_113 (kM_readsYears G z m) (fun r113 => ?_)
                  refine xR_ifeq 116 123 dM_readsItem_116 (by decide) ?_ ?_
                  · exact xR_sub [0] rfl (kM_readsItem_b123 G z r113.2)
                  · exact xR_sub [0] rfl (kM_readsItem_b119 G z r113.2)
              · refine xR_aln 96 0 dM_readsItem_96 rfl rfl ?_
                refine xR_callVim 97 cv_M_readsWorm ml_RX9_152 ⟨Nat.le_of_ble_eq_true rfl, Nat.le_of_ble_eq_true rfl⟩ xcf7 rfl 85 (by decide) rfl [] rfl rfl (Nat.le_of_ble_eq_true rfl) dM_readsItem_97 (kM_readsWorm G z m) (fun r97 => ?_)
                refine xR_ifeq 100 123 dM_readsItem_100 (by decide) ?_ ?_
                · exact xR_sub [0] rfl (kM_readsItem_b123 G z r97.2)
                · refine xR_goto 103 119 dM_readsItem_103 (by decide) ?_
                  exact xR_sub [0] rfl (kM_readsItem_b119 G z r97.2)
            · refine xR_aln 80 0 dM_readsItem_80 rfl rfl ?_
              refine xR_callVim 81 cv_M_readsCut ml_RX9_149 ⟨Nat.le_of_ble_eq_true rfl, Nat.le_of_ble_eq_true rfl⟩ xcf7 rfl 85 (by decide) rfl [] rfl rfl (Nat.le_of_ble_eq_true rfl) dM_readsItem_81 (kM_readsCut G z m) (fun r81 => ?_)
              refine xR_ifeq 84 123 dM_readsItem_84 (by decide) ?_ ?_
              · exact xR_sub [0] rfl (kM_readsItem_b123 G z r81.2)
              · refine xR_goto 87 119 dM_readsItem_87 (by decide) ?_
                exact xR_sub [0] rfl (kM_readsItem_b119 G z r81.2)
          · refine xR_aln 65 0 dM_readsItem_65 rfl rfl ?_
            refine xR_callVim 66 cv_M_readsMake ml_RX9_146 ⟨Nat.le_of_ble_eq_true rfl, Nat.le_of_ble_eq_true rfl⟩ xcf7 rfl 85 (by decide) rfl [] rfl rfl (Nat.le_of_ble_eq_true rfl) dM_readsItem_66 (kM_readsMake G z m) (fun r66 => ?_)
            refine xR_ifeq 69 123 dM_readsItem_69 (by decide) ?_ ?_
            · exact xR_sub [0] rfl (kM_readsItem_b123 G z r66.2)
            · refine xR_goto 72 119 dM_readsItem_72 (by decide) ?_
              exact xR_sub [0] rfl (kM_readsItem_b119 G z r66.2)
        · refine xR_aln 50 0 dM_readsItem_50 rfl rfl ?_
          refine xR_callVim 51 cv_M_readsBoard ml_RX9_143 ⟨Nat.le_of_ble_eq_true rfl, Nat.le_of_ble_eq_true rfl⟩ xcf7 rfl 85 (by decide) rfl [] rfl rfl (Nat.le_of_ble_eq_true rfl) dM_readsItem_51 (kM_readsBoard G z m) (fun r51 => ?_)
          refine xR_ifeq 54 123 dM_readsItem_54 (by decide) ?_ ?_
          · exact xR_sub [0] rfl (kM_readsItem_b123 G z r51.2)
          · refine xR_goto 57 119 dM_readsItem_57 (by decide) ?_
            exact xR_sub [0] rfl (kM_readsItem_b119 G z r51.2)
      · refine xR_aln 35 0 dM_readsItem_35 rfl rfl ?_
        refine xR_callVim 36 cv_M_readsWet ml_RX9_139 ⟨Nat.le_of_ble_eq_true rfl, Nat.le_of_ble_eq_true rfl⟩ xcf7 rfl 85 (by decide) rfl [] rfl rfl (Nat.le_of_ble_eq_true rfl) dM_readsItem_36 (kM_readsWet G z m) (fun r36 => ?_)
        refine xR_ifeq 39 123 dM_readsItem_39 (by decide) ?_ ?_
        · exact xR_sub [0] rfl (kM_readsItem_b123 G z r36.2)
        · refine xR_goto 42 119 dM_readsItem_42 (by decide) ?_
          exact xR_sub [0] rfl (kM_readsItem_b119 G z r36.2)
  · refine xR_ic 23 (0 : Int32) dM_readsItem_23 (by decide) ?_
    exact xR_zret 24 rfl rfl dM_readsItem_24
set_option maxRecDepth 100000 in
set_option maxHeartbeats 4000000 in
theorem kM_readsItem (G : xG)   (z : xM) (m : xM) (v1 : Int32) : ∀ a, fM_readsItem  v1 m = some a → xCt G yyM_readsItem [.ref (xa G 85), .int v1] (z, m) (some (.int a.1)) (z, a.2) := by
  refine xR_ct (em := (emim z)) rfl (Nat.le_of_ble_eq_true rfl) ?_
  show xR G yyM_readsItem _ 0 [(0, .ref (xa G 85)), (1, .int v1)] [] _ _
  unfold fM_readsItem
  refine xR_aln 0 0 dM_readsItem_0 rfl rfl ?_
  refine xR_callVvm 1 cv_M_takesWord ml_RX9_133 ⟨Nat.le_of_ble_eq_true rfl, Nat.le_of_ble_eq_true rfl⟩ xcf7 rfl 85 (by decide) rfl [] rfl rfl (Nat.le_of_ble_eq_true rfl) dM_readsItem_1 (kM_takesWord G z m) (fun r1 => ?_)
  refine xR_aln 4 0 dM_readsItem_4 rfl rfl ?_
  refine xR_callVi 5 cv_M_wordOf ml_RX9_136 ⟨Nat.le_of_ble_eq_true rfl, Nat.le_of_ble_eq_true rfl⟩ xcf7 rfl 85 (by decide) rfl [] rfl rfl (Nat.le_of_ble_eq_true rfl) dM_readsItem_5 (kM_wordOf G z r1) (fun r5 => ?_)
  refine xR_isn 8 ([(2, .int r5), (0, .ref (xa G 85)), (1, .int v1)]) dM_readsItem_8 rfl (by decide) rfl ?_
  refine xR_iln 9 2 dM_readsItem_9 rfl rfl ?_
  refine xR_iln 10 0 dM_readsItem_10 rfl rfl ?_
  refine xR_ic 11 (1 : Int32) dM_readsItem_11 (by decide) ?_
  refine xR_icne 12 19 dM_readsItem_12 (by decide) ?_ ?_
  · refine xR_ic 19 (0 : Int32) dM_readsItem_19 (by decide) ?_
    exact xR_sub [1, 0] rfl (kM_readsItem_b20 G z r5 (0 : Int32) v1 r1)
  · refine xR_ic 15 (1 : Int32) dM_readsItem_15 (by decide) ?_
    refine xR_goto 16 20 dM_readsItem_16 (by decide) ?_
    exact xR_sub [1, 0] rfl (kM_readsItem_b20 G z r5 (1 : Int32) v1 r1)
theorem dM_read_0 : decode (xb yyM_read) 0 = .ok (.aload_n 0, 1) := by decide +kernel
theorem dM_read_1 : decode (xb yyM_read) 1 = .ok (.sipush 1278, 3) := by decide +kernel
theorem dM_read_4 : decode (xb yyM_read) 4 = .ok (.invokevirtual 60, 3) := by decide +kernel
theorem dM_read_7 : decode (xb yyM_read) 7 = .ok (.aload_n 0, 1) := by decide +kernel
theorem dM_read_8 : decode (xb yyM_read) 8 = .ok (.iconst 0, 1) := by decide +kernel
theorem dM_read_9 : decode (xb yyM_read) 9 = .ok (.putfield 90, 3) := by decide +kernel
theorem dM_read_12 : decode (xb yyM_read) 12 = .ok (.iconst 0, 1) := by decide +kernel
theorem dM_read_13 : decode (xb yyM_read) 13 = .ok (.istore_n 1, 1) := by decide +kernel
theorem dM_read_14 : decode (xb yyM_read) 14 = .ok (.aload_n 0, 1) := by decide +kernel
theorem dM_read_15 : decode (xb yyM_read) 15 = .ok (.invokevirtual 99, 3) := by decide +kernel
theorem dM_read_18 : decode (xb yyM_read) 18 = .ok (.iconst 1, 1) := by decide +kernel
theorem dM_read_19 : decode (xb yyM_read) 19 = .ok (.istore_n 2, 1) := by decide +kernel
theorem dM_read_20 : decode (xb yyM_read) 20 = .ok (.iload_n 2, 1) := by decide +kernel
theorem dM_read_21 : decode (xb yyM_read) 21 = .ok (.ifCond .eq 46, 3) := by decide +kernel
theorem dM_read_24 : decode (xb yyM_read) 24 = .ok (.aload_n 0, 1) := by decide +kernel
theorem dM_read_25 : decode (xb yyM_read) 25 = .ok (.getfield 96, 3) := by decide +kernel
theorem dM_read_28 : decode (xb yyM_read) 28 = .ok (.aload_n 0, 1) := by decide +kernel
theorem dM_read_29 : decode (xb yyM_read) 29 = .ok (.getfield 36, 3) := by decide +kernel
theorem dM_read_32 : decode (xb yyM_read) 32 = .ok (.if_icmp .lt 7, 3) := by decide +kernel
theorem dM_read_35 : decode (xb yyM_read) 35 = .ok (.iload_n 1, 1) := by decide +kernel
theorem dM_read_36 : decode (xb yyM_read) 36 = .ok (.ifCond .ne 31, 3) := by decide +kernel
theorem dM_read_39 : decode (xb yyM_read) 39 = .ok (.aload_n 0, 1) := by decide +kernel
theorem dM_read_40 : decode (xb yyM_read) 40 = .ok (.iload_n 1, 1) := by decide +kernel
theorem dM_read_41 : decode (xb yyM_read) 41 = .ok (.ifCond .ne 7, 3) := by decide +kernel
theorem dM_read_44 : decode (xb yyM_read) 44 = .ok (.iconst 1, 1) := by decide +kernel
theorem dM_read_45 : decode (xb yyM_read) 45 = .ok (.goto 4, 3) := by decide +kernel
theorem dM_read_48 : decode (xb yyM_read) 48 = .ok (.iconst 0, 1) := by decide +kernel
theorem dM_read_49 : decode (xb yyM_read) 49 = .ok (.invokevirtual 161, 3) := by decide +kernel
theorem dM_read_52 : decode (xb yyM_read) 52 = .ok (.istore_n 2, 1) := by decide +kernel
theorem dM_read_53 : decode (xb yyM_read) 53 = .ok (.iinc 1 1, 3) := by decide +kernel
theorem dM_read_56 : decode (xb yyM_read) 56 = .ok (.iload_n 2, 1) := by decide +kernel
theorem dM_read_57 : decode (xb yyM_read) 57 = .ok (.ifCond .eq (-37), 3) := by decide +kernel
theorem dM_read_60 : decode (xb yyM_read) 60 = .ok (.aload_n 0, 1) := by decide +kernel
theorem dM_read_61 : decode (xb yyM_read) 61 = .ok (.invokevirtual 99, 3) := by decide +kernel
theorem dM_read_64 : decode (xb yyM_read) 64 = .ok (.goto (-44), 3) := by decide +kernel
theorem dM_read_67 : decode (xb yyM_read) 67 = .ok (.iload_n 2, 1) := by decide +kernel
theorem dM_read_68 : decode (xb yyM_read) 68 = .ok (.ifCond .ne 11, 3) := by decide +kernel
theorem dM_read_71 : decode (xb yyM_read) 71 = .ok (.bipush (-10), 2) := by decide +kernel
theorem dM_read_73 : decode (xb yyM_read) 73 = .ok (.aload_n 0, 1) := by decide +kernel
theorem dM_read_74 : decode (xb yyM_read) 74 = .ok (.getfield 96, 3) := by decide +kernel
theorem dM_read_77 : decode (xb yyM_read) 77 = .ok (.isub, 1) := by decide +kernel
theorem dM_read_78 : decode (xb yyM_read) 78 = .ok (.ireturn, 1) := by decide +kernel
theorem dM_read_79 : decode (xb yyM_read) 79 = .ok (.aload_n 0, 1) := by decide +kernel
theorem dM_read_80 : decode (xb yyM_read) 80 = .ok (.sipush 1278, 3) := by decide +kernel
theorem dM_read_83 : decode (xb yyM_read) 83 = .ok (.iconst 0, 1) := by decide +kernel
theorem dM_read_84 : decode (xb yyM_read) 84 = .ok (.invokevirtual 165, 3) := by decide +kernel
theorem dM_read_87 : decode (xb yyM_read) 87 = .ok (.iload_n 1, 1) := by decide +kernel
theorem dM_read_88 : decode (xb yyM_read) 88 = .ok (.ireturn, 1) := by decide +kernel
def fM_read_b67  (v1 : Int32) (v2 : Int32) (m : xM) : Option (Int32 × xM) := (if v2 = 0 then some (((-10 : Int32) - (m.1 6 2)), m) else (fM_copy (1278 : Int32) (0 : Int32) m).bind fun r84 => some (v1, r84))
def fM_read_b49 (k20 : Int32 → Int32 → xM → Option (Int32 × xM)) (v1 : Int32) (s0 : Int32) (m : xM) : Option (Int32 × xM) := (fM_readsItem s0 m).bind fun r49 => (if r49.1 = 0 then k20 (v1 + 1) r49.1 r49.2 else (fM_blanks r49.2).bind fun r61 => k20 (v1 + 1) r49.1 r61)
def fM_read_b39 (k20 : Int32 → Int32 → xM → Option (Int32 × xM)) (v1 : Int32) (m : xM) : Option (Int32 × xM) := (if v1 = 0 then fM_read_b49 k20 v1 (1 : Int32) m else fM_read_b49 k20 v1 (0 : Int32) m)
def fM_read_l20  : Nat → Int32 → Int32 → xM → Option (Int32 × xM)
  | 0, _, _, _ => none
  | n + 1, v1, v2, m => (if v2 = 0 then fM_read_b67 v1 v2 m else (if (m.1 6 2) < (m.1 6 0) then fM_read_b39 (fM_read_l20 n) v1 m else (if v1 = 0 then fM_read_b39 (fM_read_l20 n) v1 m else fM_read_b67 v1 v2 m)))
def fM_read  (m : xM) : Option (Int32 × xM) := (fM_empties (1278 : Int32) m).bind fun r4 => (fM_blanks (xset r4 6 1 (0 : Int32))).bind fun r15 => fM_read_l20 xfu (0 : Int32) (1 : Int32) r15
set_option maxRecDepth 100000 in
set_option maxHeartbeats 4000000 in
theorem kM_read_b67 (G : xG)   (z : xM)    (v1 : Int32) (v2 : Int32) (m : xM) : xR G yyM_read (emim z) 67 [(0, .ref (xa G 85)), (1, .int v1), (2, .int v2)] [] (z, m) (fM_read_b67  v1 v2 m) := by
  unfold fM_read_b67
  refine xR_iln 67 2 dM_read_67 rfl rfl ?_
  refine xR_ifne 68 79 dM_read_68 (by decide) ?_ ?_
  · refine xR_aln 79 0 dM_read_79 rfl rfl ?_
    refine xR_sp 80 (1278 : Int32) dM_read_80 (by decide) ?_
    refine xR_ic 83 (0 : Int32) dM_read_83 (by decide) ?_
    refine xR_callVvm 84 cv_M_copy ml_RX9_165 ⟨Nat.le_of_ble_eq_true rfl, Nat.le_of_ble_eq_true rfl⟩ xcf7 rfl 85 (by decide) rfl [.int (1278 : Int32), .int (0 : Int32)] rfl rfl (Nat.le_of_ble_eq_true rfl) dM_read_84 (kM_copy G z m (1278 : Int32) (0 : Int32)) (fun r84 => ?_)
    refine xR_iln 87 1 dM_read_87 rfl rfl ?_
    exact xR_iret 88 rfl rfl dM_read_88
  · refine xR_bp 71 (-10 : Int32) dM_read_71 (by decide) ?_
    refine xR_aln 73 0 dM_read_73 rfl rfl ?_
    refine xR_getf 74 xcf7 8 85 (by decide) (by decide) rfl (v := .int (m.1 6 2)) rfl fl_RX9_96 dM_read_74 ?_
    refine xR_isub 77 dM_read_77 ?_
    exact xR_iret 78 rfl rfl dM_read_78
set_option maxRecDepth 100000 in
set_option maxHeartbeats 4000000 in
theorem kM_read_b49 (G : xG)   (z : xM)  (k20 : Int32 → Int32 → xM → Option (Int32 × xM)) (hk20 : ∀ (v1 : Int32) (v2 : Int32) (m : xM), xR G yyM_read (emim z) 20 [(0, .ref (xa G 85)), (1, .int v1), (2, .int v2)] [] (z, m) (k20 v1 v2 m)) (v1 : Int32) (s0 : Int32) (m : xM) : xR G yyM_read (emim z) 49 [(0, .ref (xa G 85)), (1, .int v1)] [.int s0, .ref (xa G 85)] (z, m) (fM_read_b49 k20 v1 s0 m) := by
  unfold fM_read_b49
  refine xR_callVim 49 cv_M_readsItem ml_RX9_161 ⟨Nat.le_of_ble_eq_true rfl, Nat.le_of_ble_eq_true rfl⟩ xcf7 rfl 85 (by decide) rfl [.int s0] rfl rfl (Nat.le_of_ble_eq_true rfl) dM_read_49 (kM_readsItem G z m s0) (fun r49 => ?_)
  refine xR_isn 52 ([(2, .int r49.1), (0, .ref (xa G 85)), (1, .int v1)]) dM_read_52 rfl (by decide) rfl ?_
  refine xR_iinc 53 2 (v1 + 1) ([(1, .int (v1 + 1)), (2, .int r49.1), (0, .ref (xa G 85))]) dM_read_53 rfl rfl (by decide) rfl ?_
  refine xR_iln 56 1 dM_read_56 rfl rfl ?_
  refine xR_ifeq 57 20 dM_read_57 (by decide) ?_ ?_
  · exact xR_sub [2, 0, 1] rfl (hk20 (v1 + 1) r49.1 r49.2)
  · refine xR_aln 60 2 dM_read_60 rfl rfl ?_
    refine xR_callVvm 61 cv_M_blanks ml_RX9_99 ⟨Nat.le_of_ble_eq_true rfl, Nat.le_of_ble_eq_true rfl⟩ xcf7 rfl 85 (by decide) rfl [] rfl rfl (Nat.le_of_ble_eq_true rfl) dM_read_61 (kM_blanks G z r49.2) (fun r61 => ?_)
    refine xR_goto 64 20 dM_read_64 (by decide) ?_
    exact xR_sub [2, 0, 1] rfl (hk20 (v1 + 1) r49.1 r61)
set_option maxRecDepth 100000 in
set_option maxHeartbeats 4000000 in
theorem kM_read_b39 (G : xG)   (z : xM)  (k20 : Int32 → Int32 → xM → Option (Int32 × xM)) (hk20 : ∀ (v1 : Int32) (v2 : Int32) (m : xM), xR G yyM_read (emim z) 20 [(0, .ref (xa G 85)), (1, .int v1), (2, .int v2)] [] (z, m) (k20 v1 v2 m)) (v1 : Int32) (m : xM) : xR G yyM_read (emim z) 39 [(0, .ref (xa G 85)), (1, .int v1)] [] (z, m) (fM_read_b39 k20 v1 m) := by
  unfold fM_read_b39
  refine xR_aln 39 0 dM_read_39 rfl rfl ?_
  refine xR_iln 40 1 dM_read_40 rfl rfl ?_
  refine xR_ifne 41 48 dM_read_41 (by decide) ?_ ?_
  · refine xR_ic 48 (0 : Int32) dM_read_48 (by decide) ?_
    exact kM_read_b49 G z k20 hk20 v1 (0 : Int32) m
  · refine xR_ic 44 (1 : Int32) dM_read_44 (by decide) ?_
    refine xR_goto 45 49 dM_read_45 (by decide) ?_
    exact kM_read_b49 G z k20 hk20 v1 (1 : Int32) m
set_option maxRecDepth 100000 in
set_option maxHeartbeats 4000000 in
theorem kM_read_l20 (G : xG)   (z : xM)    : ∀ (n : Nat) (v1 : Int32) (v2 : Int32) (m : xM), xR G yyM_read (emim z) 20 [(0, .ref (xa G 85)), (1, .int v1), (2, .int v2)] [] (z, m) (fM_read_l20  n v1 v2 m) := by
  intro n
  induction n with
  | zero =>
    intro v1 v2 m
    rw [fM_read_l20]
    exact xR_none
  | succ n ih =>
    intro v1 v2 m
    rw [fM_read_l20]
    refine xR_iln 20 2 dM_read_20 rfl rfl ?_
    refine xR_ifeq 21 67 dM_read_21 (by decide) ?_ ?_
    · exact kM_read_b67 G z v1 v2 m
    · refine xR_aln 24 0 dM_read_24 rfl rfl ?_
      refine xR_getf 25 xcf7 8 85 (by decide) (by decide) rfl (v := .int (m.1 6 2)) rfl fl_RX9_96 dM_read_25 ?_
      refine xR_aln 28 0 dM_read_28 rfl rfl ?_
      refine xR_getf 29 xcf7 3 85 (by decide) (by decide) rfl (v := .int (m.1 6 0)) rfl fl_RX9_36 dM_read_29 ?_
      refine xR_iclt 32 39 dM_read_32 (by decide) ?_ ?_
      · exact xR_sub [0, 1] rfl (kM_read_b39 G z (fM_read_l20 n) ih v1 m)
      · refine xR_iln 35 1 dM_read_35 rfl rfl ?_
        refine xR_ifne 36 67 dM_read_36 (by decide) ?_ ?_
        · exact kM_read_b67 G z v1 v2 m
        · exact xR_sub [0, 1] rfl (kM_read_b39 G z (fM_read_l20 n) ih v1 m)
set_option maxRecDepth 100000 in
set_option maxHeartbeats 4000000 in
theorem kM_read (G : xG)   (z : xM) (m : xM) : ∀ a, fM_read  m = some a → xCt G yyM_read [.ref (xa G 85)] (z, m) (some (.int a.1)) (z, a.2) := by
  refine xR_ct (em := (emim z)) rfl (Nat.le_of_ble_eq_true rfl) ?_
  show xR G yyM_read _ 0 [(0, .ref (xa G 85))] [] _ _
  unfold fM_read
  refine xR_aln 0 0 dM_read_0 rfl rfl ?_
  refine xR_sp 1 (1278 : Int32) dM_read_1 (by decide) ?_
  refine xR_callVvm 4 cv_M_empties ml_RX9_60 ⟨Nat.le_of_ble_eq_true rfl, Nat.le_of_ble_eq_true rfl⟩ xcf7 rfl 85 (by decide) rfl [.int (1278 : Int32)] rfl rfl (Nat.le_of_ble_eq_true rfl) dM_read_4 (kM_empties G z m (1278 : Int32)) (fun r4 => ?_)
  refine xR_aln 7 0 dM_read_7 rfl rfl ?_
  refine xR_ic 8 (0 : Int32) dM_read_8 (by decide) ?_
  refine xR_putf 9 xcf7 7 85 (by decide) (by decide) rfl rfl rfl rfl (Nat.le_of_ble_eq_true rfl) (z, (xset r4 6 1 (0 : Int32))) (xW_mint (i := 1) rfl) fl_RX9_90 dM_read_9 ?_
  refine xR_ic 12 (0 : Int32) dM_read_12 (by decide) ?_
  refine xR_isn 13 ([(1, .int (0 : Int32)), (0, .ref (xa G 85))]) dM_read_13 rfl (by decide) rfl ?_
  refine xR_aln 14 1 dM_read_14 rfl rfl ?_
  refine xR_callVvm 15 cv_M_blanks ml_RX9_99 ⟨Nat.le_of_ble_eq_true rfl, Nat.le_of_ble_eq_true rfl⟩ xcf7 rfl 85 (by decide) rfl [] rfl rfl (Nat.le_of_ble_eq_true rfl) dM_read_15 (kM_blanks G z (xset r4 6 1 (0 : Int32))) (fun r15 => ?_)
  refine xR_ic 18 (1 : Int32) dM_read_18 (by decide) ?_
  refine xR_isn 19 ([(2, .int (1 : Int32)), (1, .int (0 : Int32)), (0, .ref (xa G 85))]) dM_read_19 rfl (by decide) rfl ?_
  exact xR_sub [2, 1, 0] rfl (kM_read_l20 G z xfu (0 : Int32) (1 : Int32) r15)
theorem dM_minds_0 : decode (xb yyM_minds) 0 = .ok (.aload_n 0, 1) := by decide +kernel
theorem dM_minds_1 : decode (xb yyM_minds) 1 = .ok (.getfield 7, 3) := by decide +kernel
theorem dM_minds_4 : decode (xb yyM_minds) 4 = .ok (.sipush 129, 3) := by decide +kernel
theorem dM_minds_7 : decode (xb yyM_minds) 7 = .ok (.iaload, 1) := by decide +kernel
theorem dM_minds_8 : decode (xb yyM_minds) 8 = .ok (.bipush 8, 2) := by decide +kernel
theorem dM_minds_10 : decode (xb yyM_minds) 10 = .ok (.if_icmp .ne 53, 3) := by decide +kernel
theorem dM_minds_13 : decode (xb yyM_minds) 13 = .ok (.iconst 0, 1) := by decide +kernel
theorem dM_minds_14 : decode (xb yyM_minds) 14 = .ok (.istore_n 1, 1) := by decide +kernel
theorem dM_minds_15 : decode (xb yyM_minds) 15 = .ok (.iload_n 1, 1) := by decide +kernel
theorem dM_minds_16 : decode (xb yyM_minds) 16 = .ok (.sipush 259, 3) := by decide +kernel
theorem dM_minds_19 : decode (xb yyM_minds) 19 = .ok (.if_icmp .ge 32, 3) := by decide +kernel
theorem dM_minds_22 : decode (xb yyM_minds) 22 = .ok (.aload_n 0, 1) := by decide +kernel
theorem dM_minds_23 : decode (xb yyM_minds) 23 = .ok (.getfield 7, 3) := by decide +kernel
theorem dM_minds_26 : decode (xb yyM_minds) 26 = .ok (.sipush 130, 3) := by decide +kernel
theorem dM_minds_29 : decode (xb yyM_minds) 29 = .ok (.iload_n 1, 1) := by decide +kernel
theorem dM_minds_30 : decode (xb yyM_minds) 30 = .ok (.iadd, 1) := by decide +kernel
theorem dM_minds_31 : decode (xb yyM_minds) 31 = .ok (.aload_n 0, 1) := by decide +kernel
theorem dM_minds_32 : decode (xb yyM_minds) 32 = .ok (.getfield 7, 3) := by decide +kernel
theorem dM_minds_35 : decode (xb yyM_minds) 35 = .ok (.sipush 130, 3) := by decide +kernel
theorem dM_minds_38 : decode (xb yyM_minds) 38 = .ok (.iload_n 1, 1) := by decide +kernel
theorem dM_minds_39 : decode (xb yyM_minds) 39 = .ok (.iadd, 1) := by decide +kernel
theorem dM_minds_40 : decode (xb yyM_minds) 40 = .ok (.bipush 37, 2) := by decide +kernel
theorem dM_minds_42 : decode (xb yyM_minds) 42 = .ok (.iadd, 1) := by decide +kernel
theorem dM_minds_43 : decode (xb yyM_minds) 43 = .ok (.iaload, 1) := by decide +kernel
theorem dM_minds_44 : decode (xb yyM_minds) 44 = .ok (.iastore, 1) := by decide +kernel
theorem dM_minds_45 : decode (xb yyM_minds) 45 = .ok (.iinc 1 1, 3) := by decide +kernel
theorem dM_minds_48 : decode (xb yyM_minds) 48 = .ok (.goto (-33), 3) := by decide +kernel
theorem dM_minds_51 : decode (xb yyM_minds) 51 = .ok (.aload_n 0, 1) := by decide +kernel
theorem dM_minds_52 : decode (xb yyM_minds) 52 = .ok (.getfield 7, 3) := by decide +kernel
theorem dM_minds_55 : decode (xb yyM_minds) 55 = .ok (.sipush 129, 3) := by decide +kernel
theorem dM_minds_58 : decode (xb yyM_minds) 58 = .ok (.dup2, 1) := by decide +kernel
theorem dM_minds_59 : decode (xb yyM_minds) 59 = .ok (.iaload, 1) := by decide +kernel
theorem dM_minds_60 : decode (xb yyM_minds) 60 = .ok (.iconst 1, 1) := by decide +kernel
theorem dM_minds_61 : decode (xb yyM_minds) 61 = .ok (.isub, 1) := by decide +kernel
theorem dM_minds_62 : decode (xb yyM_minds) 62 = .ok (.iastore, 1) := by decide +kernel
theorem dM_minds_63 : decode (xb yyM_minds) 63 = .ok (.sipush 130, 3) := by decide +kernel
theorem dM_minds_66 : decode (xb yyM_minds) 66 = .ok (.bipush 37, 2) := by decide +kernel
theorem dM_minds_68 : decode (xb yyM_minds) 68 = .ok (.aload_n 0, 1) := by decide +kernel
theorem dM_minds_69 : decode (xb yyM_minds) 69 = .ok (.getfield 7, 3) := by decide +kernel
theorem dM_minds_72 : decode (xb yyM_minds) 72 = .ok (.sipush 129, 3) := by decide +kernel
theorem dM_minds_75 : decode (xb yyM_minds) 75 = .ok (.iaload, 1) := by decide +kernel
theorem dM_minds_76 : decode (xb yyM_minds) 76 = .ok (.imul, 1) := by decide +kernel
theorem dM_minds_77 : decode (xb yyM_minds) 77 = .ok (.iadd, 1) := by decide +kernel
theorem dM_minds_78 : decode (xb yyM_minds) 78 = .ok (.istore_n 1, 1) := by decide +kernel
theorem dM_minds_79 : decode (xb yyM_minds) 79 = .ok (.aload_n 0, 1) := by decide +kernel
theorem dM_minds_80 : decode (xb yyM_minds) 80 = .ok (.getfield 7, 3) := by decide +kernel
theorem dM_minds_83 : decode (xb yyM_minds) 83 = .ok (.iload_n 1, 1) := by decide +kernel
theorem dM_minds_84 : decode (xb yyM_minds) 84 = .ok (.aload_n 0, 1) := by decide +kernel
theorem dM_minds_85 : decode (xb yyM_minds) 85 = .ok (.getfield 7, 3) := by decide +kernel
theorem dM_minds_88 : decode (xb yyM_minds) 88 = .ok (.iconst 2, 1) := by decide +kernel
theorem dM_minds_89 : decode (xb yyM_minds) 89 = .ok (.iaload, 1) := by decide +kernel
theorem dM_minds_90 : decode (xb yyM_minds) 90 = .ok (.iastore, 1) := by decide +kernel
theorem dM_minds_91 : decode (xb yyM_minds) 91 = .ok (.iconst 0, 1) := by decide +kernel
theorem dM_minds_92 : decode (xb yyM_minds) 92 = .ok (.istore_n 2, 1) := by decide +kernel
theorem dM_minds_93 : decode (xb yyM_minds) 93 = .ok (.iload_n 2, 1) := by decide +kernel
theorem dM_minds_94 : decode (xb yyM_minds) 94 = .ok (.bipush 36, 2) := by decide +kernel
theorem dM_minds_96 : decode (xb yyM_minds) 96 = .ok (.if_icmp .ge 28, 3) := by decide +kernel
theorem dM_minds_99 : decode (xb yyM_minds) 99 = .ok (.aload_n 0, 1) := by decide +kernel
theorem dM_minds_100 : decode (xb yyM_minds) 100 = .ok (.getfield 7, 3) := by decide +kernel
theorem dM_minds_103 : decode (xb yyM_minds) 103 = .ok (.iload_n 1, 1) := by decide +kernel
theorem dM_minds_104 : decode (xb yyM_minds) 104 = .ok (.iconst 1, 1) := by decide +kernel
theorem dM_minds_105 : decode (xb yyM_minds) 105 = .ok (.iadd, 1) := by decide +kernel
theorem dM_minds_106 : decode (xb yyM_minds) 106 = .ok (.iload_n 2, 1) := by decide +kernel
theorem dM_minds_107 : decode (xb yyM_minds) 107 = .ok (.iadd, 1) := by decide +kernel
theorem dM_minds_108 : decode (xb yyM_minds) 108 = .ok (.aload_n 0, 1) := by decide +kernel
theorem dM_minds_109 : decode (xb yyM_minds) 109 = .ok (.getfield 7, 3) := by decide +kernel
theorem dM_minds_112 : decode (xb yyM_minds) 112 = .ok (.bipush 8, 2) := by decide +kernel
theorem dM_minds_114 : decode (xb yyM_minds) 114 = .ok (.iload_n 2, 1) := by decide +kernel
theorem dM_minds_115 : decode (xb yyM_minds) 115 = .ok (.iadd, 1) := by decide +kernel
theorem dM_minds_116 : decode (xb yyM_minds) 116 = .ok (.iaload, 1) := by decide +kernel
theorem dM_minds_117 : decode (xb yyM_minds) 117 = .ok (.iastore, 1) := by decide +kernel
theorem dM_minds_118 : decode (xb yyM_minds) 118 = .ok (.iinc 2 1, 3) := by decide +kernel
theorem dM_minds_121 : decode (xb yyM_minds) 121 = .ok (.goto (-28), 3) := by decide +kernel
theorem dM_minds_124 : decode (xb yyM_minds) 124 = .ok (.aload_n 0, 1) := by decide +kernel
theorem dM_minds_125 : decode (xb yyM_minds) 125 = .ok (.getfield 7, 3) := by decide +kernel
theorem dM_minds_128 : decode (xb yyM_minds) 128 = .ok (.sipush 129, 3) := by decide +kernel
theorem dM_minds_131 : decode (xb yyM_minds) 131 = .ok (.dup2, 1) := by decide +kernel
theorem dM_minds_132 : decode (xb yyM_minds) 132 = .ok (.iaload, 1) := by decide +kernel
theorem dM_minds_133 : decode (xb yyM_minds) 133 = .ok (.iconst 1, 1) := by decide +kernel
theorem dM_minds_134 : decode (xb yyM_minds) 134 = .ok (.iadd, 1) := by decide +kernel
theorem dM_minds_135 : decode (xb yyM_minds) 135 = .ok (.iastore, 1) := by decide +kernel
theorem dM_minds_136 : decode (xb yyM_minds) 136 = .ok (.return_, 1) := by decide +kernel
def fM_minds_l93  : Nat → Int32 → Int32 → xM → Option (xM)
  | 0, _, _, _ => none
  | n + 1, v1, v2, m => (if (36 : Int32) ≤ v2 then xck 1752 (129 : Int32) (xck 1752 (129 : Int32) (some (xset m 0 (129 : Int32).toNatClampNeg ((m.1 0 (129 : Int32).toNatClampNeg) + (1 : Int32))))) else xck 1752 ((8 : Int32) + v2) (xck 1752 ((v1 + (1 : Int32)) + v2) (fM_minds_l93 n v1 (v2 + 1) (xset m 0 ((v1 + (1 : Int32)) + v2).toNatClampNeg (m.1 0 ((8 : Int32) + v2).toNatClampNeg)))))
def fM_minds_b63  (m : xM) : Option (xM) := xck 1752 (129 : Int32) (xck 1752 (2 : Int32) (xck 1752 ((130 : Int32) + ((37 : Int32) * (m.1 0 (129 : Int32).toNatClampNeg))) (fM_minds_l93 xfu ((130 : Int32) + ((37 : Int32) * (m.1 0 (129 : Int32).toNatClampNeg))) (0 : Int32) (xset m 0 ((130 : Int32) + ((37 : Int32) * (m.1 0 (129 : Int32).toNatClampNeg))).toNatClampNeg (m.1 0 (2 : Int32).toNatClampNeg)))))
def fM_minds_l15  : Nat → Int32 → xM → Option (xM)
  | 0, _, _ => none
  | n + 1, v1, m => (if (259 : Int32) ≤ v1 then xck 1752 (129 : Int32) (xck 1752 (129 : Int32) (fM_minds_b63 (xset m 0 (129 : Int32).toNatClampNeg ((m.1 0 (129 : Int32).toNatClampNeg) - (1 : Int32))))) else xck 1752 (((130 : Int32) + v1) + (37 : Int32)) (xck 1752 ((130 : Int32) + v1) (fM_minds_l15 n (v1 + 1) (xset m 0 ((130 : Int32) + v1).toNatClampNeg (m.1 0 (((130 : Int32) + v1) + (37 : Int32)).toNatClampNeg)))))
def fM_minds  (m : xM) : Option (xM) := xck 1752 (129 : Int32) ((if (m.1 0 (129 : Int32).toNatClampNeg) = (8 : Int32) then fM_minds_l15 xfu (0 : Int32) m else fM_minds_b63 m))
set_option maxRecDepth 100000 in
set_option maxHeartbeats 4000000 in
theorem kM_minds_l93 (G : xG)   (z : xM)    : ∀ (n : Nat) (v1 : Int32) (v2 : Int32) (m : xM), xR G yyM_minds (emvm z) 93 [(0, .ref (xa G 85)), (1, .int v1), (2, .int v2)] [] (z, m) (fM_minds_l93  n v1 v2 m) := by
  intro n
  induction n with
  | zero =>
    intro v1 v2 m
    rw [fM_minds_l93]
    exact xR_none
  | succ n ih =>
    intro v1 v2 m
    rw [fM_minds_l93]
    refine xR_iln 93 2 dM_minds_93 rfl rfl ?_
    refine xR_bp 94 (36 : Int32) dM_minds_94 (by decide) ?_
    refine xR_icge 96 124 dM_minds_96 (by decide) ?_ ?_
    · refine xR_aln 124 0 dM_minds_124 rfl rfl ?_
      refine xR_getf 125 xcf7 0 85 (by decide) (by decide) rfl (v := .ref (xa G 86)) rfl fl_RX9_7 dM_minds_125 ?_
      refine xR_sp 128 (129 : Int32) dM_minds_128 (by decide) ?_
      refine xR_dup2 131 dM_minds_131 rfl rfl ?_
      refine xR_iald 132 86 (by decide) rfl dM_minds_132 ?_
      refine xR_ic 133 (1 : Int32) dM_minds_133 (by decide) ?_
      refine xR_iadd 134 dM_minds_134 ?_
      refine xR_iast 135 86 (by decide) rfl (z, (xset m 0 (129 : Int32).toNatClampNeg ((m.1 0 (129 : Int32).toNatClampNeg) + (1 : Int32)))) xW_m0 dM_minds_135 ?_
      exact xR_vret 136 rfl rfl dM_minds_136
    · refine xR_aln 99 0 dM_minds_99 rfl rfl ?_
      refine xR_getf 100 xcf7 0 85 (by decide) (by decide) rfl (v := .ref (xa G 86)) rfl fl_RX9_7 dM_minds_100 ?_
      refine xR_iln 103 1 dM_minds_103 rfl rfl ?_
      refine xR_ic 104 (1 : Int32) dM_minds_104 (by decide) ?_
      refine xR_iadd 105 dM_minds_105 ?_
      refine xR_iln 106 2 dM_minds_106 rfl rfl ?_
      refine xR_iadd 107 dM_minds_107 ?_
      refine xR_aln 108 0 dM_minds_108 rfl rfl ?_
      refine xR_getf 109 xcf7 0 85 (by decide) (by decide) rfl (v := .ref (xa G 86)) rfl fl_RX9_7 dM_minds_109 ?_
      refine xR_bp 112 (8 : Int32) dM_minds_112 (by decide) ?_
      refine xR_iln 114 2 dM_minds_114 rfl rfl ?_
      refine xR_iadd 115 dM_minds_115 ?_
      refine xR_iald 116 86 (by decide) rfl dM_minds_116 ?_
      refine xR_iast 117 86 (by decide) rfl (z, (xset m 0 ((v1 + (1 : Int32)) + v2).toNatClampNeg (m.1 0 ((8 : Int32) + v2).toNatClampNeg))) xW_m0 dM_minds_117 ?_
      refine xR_iinc 118 2 (v2 + 1) ([(2, .int (v2 + 1)), (0, .ref (xa G 85)), (1, .int v1)]) dM_minds_118 rfl rfl (by decide) rfl ?_
      refine xR_goto 121 93 dM_minds_121 (by decide) ?_
      exact xR_sub [1, 2, 0] rfl (ih v1 (v2 + 1) (xset m 0 ((v1 + (1 : Int32)) + v2).toNatClampNeg (m.1 0 ((8 : Int32) + v2).toNatClampNeg)))
set_option maxRecDepth 100000 in
set_option maxHeartbeats 4000000 in
theorem kM_minds_b63 (G : xG)   (z : xM)    (m : xM) : xR G yyM_minds (emvm z) 63 [(0, .ref (xa G 85))] [] (z, m) (fM_minds_b63  m) := by
  unfold fM_minds_b63
  refine xR_sp 63 (130 : Int32) dM_minds_63 (by decide) ?_
  refine xR_bp 66 (37 : Int32) dM_minds_66 (by decide) ?_
  refine xR_aln 68 0 dM_minds_68 rfl rfl ?_
  refine xR_getf 69 xcf7 0 85 (by decide) (by decide) rfl (v := .ref (xa G 86)) rfl fl_RX9_7 dM_minds_69 ?_
  refine xR_sp 72 (129 : Int32) dM_minds_72 (by decide) ?_
  refine xR_iald 75 86 (by decide) rfl dM_minds_75 ?_
  refine xR_imul 76 dM_minds_76 ?_
  refine xR_iadd 77 dM_minds_77 ?_
  refine xR_isn 78 ([(1, .int ((130 : Int32) + ((37 : Int32) * (m.1 0 (129 : Int32).toNatClampNeg)))), (0, .ref (xa G 85))]) dM_minds_78 rfl (by decide) rfl ?_
  refine xR_aln 79 1 dM_minds_79 rfl rfl ?_
  refine xR_getf 80 xcf7 0 85 (by decide) (by decide) rfl (v := .ref (xa G 86)) rfl fl_RX9_7 dM_minds_80 ?_
  refine xR_iln 83 0 dM_minds_83 rfl rfl ?_
  refine xR_aln 84 1 dM_minds_84 rfl rfl ?_
  refine xR_getf 85 xcf7 0 85 (by decide) (by decide) rfl (v := .ref (xa G 86)) rfl fl_RX9_7 dM_minds_85 ?_
  refine xR_ic 88 (2 : Int32) dM_minds_88 (by decide) ?_
  refine xR_iald 89 86 (by decide) rfl dM_minds_89 ?_
  refine xR_iast 90 86 (by decide) rfl (z, (xset m 0 ((130 : Int32) + ((37 : Int32) * (m.1 0 (129 : Int32).toNatClampNeg))).toNatClampNeg (m.1 0 (2 : Int32).toNatClampNeg))) xW_m0 dM_minds_90 ?_
  refine xR_ic 91 (0 : Int32) dM_minds_91 (by decide) ?_
  refine xR_isn 92 ([(2, .int (0 : Int32)), (1, .int ((130 : Int32) + ((37 : Int32) * (m.1 0 (129 : Int32).toNatClampNeg)))), (0, .ref (xa G 85))]) dM_minds_92 rfl (by decide) rfl ?_
  exact xR_sub [2, 1, 0] rfl (kM_minds_l93 G z xfu ((130 : Int32) + ((37 : Int32) * (m.1 0 (129 : Int32).toNatClampNeg))) (0 : Int32) (xset m 0 ((130 : Int32) + ((37 : Int32) * (m.1 0 (129 : Int32).toNatClampNeg))).toNatClampNeg (m.1 0 (2 : Int32).toNatClampNeg)))
set_option maxRecDepth 100000 in
set_option maxHeartbeats 4000000 in
theorem kM_minds_l15 (G : xG)   (z : xM)    : ∀ (n : Nat) (v1 : Int32) (m : xM), xR G yyM_minds (emvm z) 15 [(0, .ref (xa G 85)), (1, .int v1)] [] (z, m) (fM_minds_l15  n v1 m) := by
  intro n
  induction n with
  | zero =>
    intro v1 m
    rw [fM_minds_l15]
    exact xR_none
  | succ n ih =>
    intro v1 m
    rw [fM_minds_l15]
    refine xR_iln 15 1 dM_minds_15 rfl rfl ?_
    refine xR_sp 16 (259 : Int32) dM_minds_16 (by decide) ?_
    refine xR_icge 19 51 dM_minds_19 (by decide) ?_ ?_
    · refine xR_aln 51 0 dM_minds_51 rfl rfl ?_
      refine xR_getf 52 xcf7 0 85 (by decide) (by decide) rfl (v := .ref (xa G 86)) rfl fl_RX9_7 dM_minds_52 ?_
      refine xR_sp 55 (129 : Int32) dM_minds_55 (by decide) ?_
      refine xR_dup2 58 dM_minds_58 rfl rfl ?_
      refine xR_iald 59 86 (by decide) rfl dM_minds_59 ?_
      refine xR_ic 60 (1 : Int32) dM_minds_60 (by decide) ?_
      refine xR_isub 61 dM_minds_61 ?_
      refine xR_iast 62 86 (by decide) rfl (z, (xset m 0 (129 : Int32).toNatClampNeg ((m.1 0 (129 : Int32).toNatClampNeg) - (1 : Int32)))) xW_m0 dM_minds_62 ?_
      exact xR_sub [0] rfl (kM_minds_b63 G z (xset m 0 (129 : Int32).toNatClampNeg ((m.1 0 (129 : Int32).toNatClampNeg) - (1 : Int32))))
    · refine xR_aln 22 0 dM_minds_22 rfl rfl ?_
      refine xR_getf 23 xcf7 0 85 (by decide) (by decide) rfl (v := .ref (xa G 86)) rfl fl_RX9_7 dM_minds_23 ?_
      refine xR_sp 26 (130 : Int32) dM_minds_26 (by decide) ?_
      refine xR_iln 29 1 dM_minds_29 rfl rfl ?_
      refine xR_iadd 30 dM_minds_30 ?_
      refine xR_aln 31 0 dM_minds_31 rfl rfl ?_
      refine xR_getf 32 xcf7 0 85 (by decide) (by decide) rfl (v := .ref (xa G 86)) rfl fl_RX9_7 dM_minds_32 ?_
      refine xR_sp 35 (130 : Int32) dM_minds_35 (by decide) ?_
      refine xR_iln 38 1 dM_minds_38 rfl rfl ?_
      refine xR_iadd 39 dM_minds_39 ?_
      refine xR_bp 40 (37 : Int32) dM_minds_40 (by decide) ?_
      refine xR_iadd 42 dM_minds_42 ?_
      refine xR_iald 43 86 (by decide) rfl dM_minds_43 ?_
      refine xR_iast 44 86 (by decide) rfl (z, (xset m 0 ((130 : Int32) + v1).toNatClampNeg (m.1 0 (((130 : Int32) + v1) + (37 : Int32)).toNatClampNeg))) xW_m0 dM_minds_44 ?_
      refine xR_iinc 45 1 (v1 + 1) ([(1, .int (v1 + 1)), (0, .ref (xa G 85))]) dM_minds_45 rfl rfl (by decide) rfl ?_
      refine xR_goto 48 15 dM_minds_48 (by decide) ?_
      exact xR_sub [1, 0] rfl (ih (v1 + 1) (xset m 0 ((130 : Int32) + v1).toNatClampNeg (m.1 0 (((130 : Int32) + v1) + (37 : Int32)).toNatClampNeg)))
set_option maxRecDepth 100000 in
set_option maxHeartbeats 4000000 in
theorem kM_minds (G : xG)   (z : xM) (m : xM) : ∀ a, fM_minds  m = some a → xCt G yyM_minds [.ref (xa G 85)] (z, m) (none) (z, a) := by
  refine xR_ct (em := (emvm z)) rfl (Nat.le_of_ble_eq_true rfl) ?_
  show xR G yyM_minds _ 0 [(0, .ref (xa G 85))] [] _ _
  unfold fM_minds
  refine xR_aln 0 0 dM_minds_0 rfl rfl ?_
  refine xR_getf 1 xcf7 0 85 (by decide) (by decide) rfl (v := .ref (xa G 86)) rfl fl_RX9_7 dM_minds_1 ?_
  refine xR_sp 4 (129 : Int32) dM_minds_4 (by decide) ?_
  refine xR_iald 7 86 (by decide) rfl dM_minds_7 ?_
  refine xR_bp 8 (8 : Int32) dM_minds_8 (by decide) ?_
  refine xR_icne 10 63 dM_minds_10 (by decide) ?_ ?_
  · exact kM_minds_b63 G z m
  · refine xR_ic 13 (0 : Int32) dM_minds_13 (by decide) ?_
    refine xR_isn 14 ([(1, .int (0 : Int32)), (0, .ref (xa G 85))]) dM_minds_14 rfl (by decide) rfl ?_
    exact xR_sub [1, 0] rfl (kM_minds_l15 G z xfu (0 : Int32) m)
theorem dM_sumOf_0 : decode (xb yyM_sumOf) 0 = .ok (.iconst 0, 1) := by decide +kernel
theorem dM_sumOf_1 : decode (xb yyM_sumOf) 1 = .ok (.istore_n 2, 1) := by decide +kernel
theorem dM_sumOf_2 : decode (xb yyM_sumOf) 2 = .ok (.iconst 0, 1) := by decide +kernel
theorem dM_sumOf_3 : decode (xb yyM_sumOf) 3 = .ok (.istore_n 3, 1) := by decide +kernel
theorem dM_sumOf_4 : decode (xb yyM_sumOf) 4 = .ok (.iload_n 3, 1) := by decide +kernel
theorem dM_sumOf_5 : decode (xb yyM_sumOf) 5 = .ok (.aload_n 0, 1) := by decide +kernel
theorem dM_sumOf_6 : decode (xb yyM_sumOf) 6 = .ok (.getfield 7, 3) := by decide +kernel
theorem dM_sumOf_9 : decode (xb yyM_sumOf) 9 = .ok (.iconst 0, 1) := by decide +kernel
theorem dM_sumOf_10 : decode (xb yyM_sumOf) 10 = .ok (.iaload, 1) := by decide +kernel
theorem dM_sumOf_11 : decode (xb yyM_sumOf) 11 = .ok (.if_icmp .ge 20, 3) := by decide +kernel
theorem dM_sumOf_14 : decode (xb yyM_sumOf) 14 = .ok (.iload_n 2, 1) := by decide +kernel
theorem dM_sumOf_15 : decode (xb yyM_sumOf) 15 = .ok (.aload_n 0, 1) := by decide +kernel
theorem dM_sumOf_16 : decode (xb yyM_sumOf) 16 = .ok (.getfield 7, 3) := by decide +kernel
theorem dM_sumOf_19 : decode (xb yyM_sumOf) 19 = .ok (.iload_n 1, 1) := by decide +kernel
theorem dM_sumOf_20 : decode (xb yyM_sumOf) 20 = .ok (.iload_n 3, 1) := by decide +kernel
theorem dM_sumOf_21 : decode (xb yyM_sumOf) 21 = .ok (.iadd, 1) := by decide +kernel
theorem dM_sumOf_22 : decode (xb yyM_sumOf) 22 = .ok (.iaload, 1) := by decide +kernel
theorem dM_sumOf_23 : decode (xb yyM_sumOf) 23 = .ok (.iadd, 1) := by decide +kernel
theorem dM_sumOf_24 : decode (xb yyM_sumOf) 24 = .ok (.istore_n 2, 1) := by decide +kernel
theorem dM_sumOf_25 : decode (xb yyM_sumOf) 25 = .ok (.iinc 3 1, 3) := by decide +kernel
theorem dM_sumOf_28 : decode (xb yyM_sumOf) 28 = .ok (.goto (-24), 3) := by decide +kernel
theorem dM_sumOf_31 : decode (xb yyM_sumOf) 31 = .ok (.iload_n 2, 1) := by decide +kernel
theorem dM_sumOf_32 : decode (xb yyM_sumOf) 32 = .ok (.ireturn, 1) := by decide +kernel
def fM_sumOf_l4  (m : xM) : Nat → Int32 → Int32 → Int32 → Option (Int32)
  | 0, _, _, _ => none
  | n + 1, v1, v2, v3 => xck 1752 (0 : Int32) ((if (m.1 0 (0 : Int32).toNatClampNeg) ≤ v3 then some v2 else xck 1752 (v1 + v3) (fM_sumOf_l4 m n v1 (v2 + (m.1 0 (v1 + v3).toNatClampNeg)) (v3 + 1))))
def fM_sumOf  (m : xM) (v1 : Int32) : Option (Int32) := fM_sumOf_l4 m xfu v1 (0 : Int32) (0 : Int32)
set_option maxRecDepth 100000 in
set_option maxHeartbeats 4000000 in
theorem kM_sumOf_l4 (G : xG)   (z : xM) (m : xM)   : ∀ (n : Nat) (v1 : Int32) (v2 : Int32) (v3 : Int32), xR G yyM_sumOf (emi (z, m)) 4 [(0, .ref (xa G 85)), (1, .int v1), (2, .int v2), (3, .int v3)] [] (z, m) (fM_sumOf_l4 m n v1 v2 v3) := by
  intro n
  induction n with
  | zero =>
    intro v1 v2 v3
    rw [fM_sumOf_l4]
    exact xR_none
  | succ n ih =>
    intro v1 v2 v3
    rw [fM_sumOf_l4]
    refine xR_iln 4 3 dM_sumOf_4 rfl rfl ?_
    refine xR_aln 5 0 dM_sumOf_5 rfl rfl ?_
    refine xR_getf 6 xcf7 0 85 (by decide) (by decide) rfl (v := .ref (xa G 86)) rfl fl_RX9_7 dM_sumOf_6 ?_
    refine xR_ic 9 (0 : Int32) dM_sumOf_9 (by decide) ?_
    refine xR_iald 10 86 (by decide) rfl dM_sumOf_10 ?_
    refine xR_icge 11 31 dM_sumOf_11 (by decide) ?_ ?_
    · refine xR_iln 31 2 dM_sumOf_31 rfl rfl ?_
      exact xR_iret 32 rfl rfl dM_sumOf_32
    · refine xR_iln 14 2 dM_sumOf_14 rfl rfl ?_
      refine xR_aln 15 0 dM_sumOf_15 rfl rfl ?_
      refine xR_getf 16 xcf7 0 85 (by decide) (by decide) rfl (v := .ref (xa G 86)) rfl fl_RX9_7 dM_sumOf_16 ?_
      refine xR_iln 19 1 dM_sumOf_19 rfl rfl ?_
      refine xR_iln 20 3 dM_sumOf_20 rfl rfl ?_
      refine xR_iadd 21 dM_sumOf_21 ?_
      refine xR_iald 22 86 (by decide) rfl dM_sumOf_22 ?_
      refine xR_iadd 23 dM_sumOf_23 ?_
      refine xR_isn 24 ([(2, .int (v2 + (m.1 0 (v1 + v3).toNatClampNeg))), (0, .ref (xa G 85)), (1, .int v1), (3, .int v3)]) dM_sumOf_24 rfl (by decide) rfl ?_
      refine xR_iinc 25 3 (v3 + 1) ([(3, .int (v3 + 1)), (2, .int (v2 + (m.1 0 (v1 + v3).toNatClampNeg))), (0, .ref (xa G 85)), (1, .int v1)]) dM_sumOf_25 rfl rfl (by decide) rfl ?_
      refine xR_goto 28 4 dM_sumOf_28 (by decide) ?_
      exact xR_sub [2, 3, 1, 0] rfl (ih v1 (v2 + (m.1 0 (v1 + v3).toNatClampNeg)) (v3 + 1))
set_option maxRecDepth 100000 in
set_option maxHeartbeats 4000000 in
theorem kM_sumOf (G : xG)   (z : xM) (m : xM) (v1 : Int32) : ∀ a, fM_sumOf m v1 = some a → xCt G yyM_sumOf [.ref (xa G 85), .int v1] (z, m) (some (.int a)) (z, m) := by
  refine xR_ct (em := (emi (z, m))) rfl (Nat.le_of_ble_eq_true rfl) ?_
  show xR G yyM_sumOf _ 0 [(0, .ref (xa G 85)), (1, .int v1)] [] _ _
  unfold fM_sumOf
  refine xR_ic 0 (0 : Int32) dM_sumOf_0 (by decide) ?_
  refine xR_isn 1 ([(2, .int (0 : Int32)), (0, .ref (xa G 85)), (1, .int v1)]) dM_sumOf_1 rfl (by decide) rfl ?_
  refine xR_ic 2 (0 : Int32) dM_sumOf_2 (by decide) ?_
  refine xR_isn 3 ([(3, .int (0 : Int32)), (2, .int (0 : Int32)), (0, .ref (xa G 85)), (1, .int v1)]) dM_sumOf_3 rfl (by decide) rfl ?_
  exact xR_sub [2, 3, 1, 0] rfl (kM_sumOf_l4 G z m xfu v1 (0 : Int32) (0 : Int32))
theorem dM_year_0 : decode (xb yyM_year) 0 = .ok (.iload_n 1, 1) := by decide +kernel
theorem dM_year_1 : decode (xb yyM_year) 1 = .ok (.i2l, 1) := by decide +kernel
theorem dM_year_2 : decode (xb yyM_year) 2 = .ok (.lconst 1, 1) := by decide +kernel
theorem dM_year_3 : decode (xb yyM_year) 3 = .ok (.ldc2_w 169, 3) := by decide +kernel
theorem dM_year_6 : decode (xb yyM_year) 6 = .ok (.invokestatic 40, 3) := by decide +kernel
theorem dM_year_9 : decode (xb yyM_year) 9 = .ok (.ifCond .ne 10, 3) := by decide +kernel
theorem dM_year_12 : decode (xb yyM_year) 12 = .ok (.aload_n 0, 1) := by decide +kernel
theorem dM_year_13 : decode (xb yyM_year) 13 = .ok (.bipush (-2), 2) := by decide +kernel
theorem dM_year_15 : decode (xb yyM_year) 15 = .ok (.invokevirtual 66, 3) := by decide +kernel
theorem dM_year_18 : decode (xb yyM_year) 18 = .ok (.ireturn, 1) := by decide +kernel
theorem dM_year_19 : decode (xb yyM_year) 19 = .ok (.aload_n 0, 1) := by decide +kernel
theorem dM_year_20 : decode (xb yyM_year) 20 = .ok (.invokevirtual 171, 3) := by decide +kernel
theorem dM_year_23 : decode (xb yyM_year) 23 = .ok (.iconst 0, 1) := by decide +kernel
theorem dM_year_24 : decode (xb yyM_year) 24 = .ok (.istore_n 2, 1) := by decide +kernel
theorem dM_year_25 : decode (xb yyM_year) 25 = .ok (.iload_n 2, 1) := by decide +kernel
theorem dM_year_26 : decode (xb yyM_year) 26 = .ok (.iload_n 1, 1) := by decide +kernel
theorem dM_year_27 : decode (xb yyM_year) 27 = .ok (.if_icmp .ge 26, 3) := by decide +kernel
theorem dM_year_30 : decode (xb yyM_year) 30 = .ok (.aload_n 0, 1) := by decide +kernel
theorem dM_year_31 : decode (xb yyM_year) 31 = .ok (.getfield 7, 3) := by decide +kernel
theorem dM_year_34 : decode (xb yyM_year) 34 = .ok (.iconst 2, 1) := by decide +kernel
theorem dM_year_35 : decode (xb yyM_year) 35 = .ok (.iaload, 1) := by decide +kernel
theorem dM_year_36 : decode (xb yyM_year) 36 = .ok (.sipush 999, 3) := by decide +kernel
theorem dM_year_39 : decode (xb yyM_year) 39 = .ok (.if_icmp .ge 14, 3) := by decide +kernel
theorem dM_year_42 : decode (xb yyM_year) 42 = .ok (.aload_n 0, 1) := by decide +kernel
theorem dM_year_43 : decode (xb yyM_year) 43 = .ok (.iconst 0, 1) := by decide +kernel
theorem dM_year_44 : decode (xb yyM_year) 44 = .ok (.invokevirtual 130, 3) := by decide +kernel
theorem dM_year_47 : decode (xb yyM_year) 47 = .ok (.iinc 2 1, 3) := by decide +kernel
theorem dM_year_50 : decode (xb yyM_year) 50 = .ok (.goto (-25), 3) := by decide +kernel
theorem dM_year_53 : decode (xb yyM_year) 53 = .ok (.aload_n 0, 1) := by decide +kernel
theorem dM_year_54 : decode (xb yyM_year) 54 = .ok (.bipush 32, 2) := by decide +kernel
theorem dM_year_56 : decode (xb yyM_year) 56 = .ok (.invokevirtual 174, 3) := by decide +kernel
theorem dM_year_59 : decode (xb yyM_year) 59 = .ok (.ireturn, 1) := by decide +kernel
def fM_year_l25  : Nat → Int32 → Int32 → xM → Option (Int32 × xM)
  | 0, _, _, _ => none
  | n + 1, v1, v2, m => (if v1 ≤ v2 then (fM_sumOf m (32 : Int32)).bind fun r56 => some (r56, m) else xck 1752 (2 : Int32) ((if (999 : Int32) ≤ (m.1 0 (2 : Int32).toNatClampNeg) then (fM_sumOf m (32 : Int32)).bind fun r56 => some (r56, m) else (fM_passes (0 : Int32) m).bind fun r44 => fM_year_l25 n v1 (v2 + 1) r44)))
def fM_year  (v1 : Int32) (m : xM) : Option (Int32 × xM) := (fM_in ((v1).toInt64) (1 : Int64) (60 : Int64)).bind fun r6 => (if r6 = 0 then (fM_bad (-2 : Int32) m).bind fun r15 => some (r15.1, r15.2) else (fM_minds m).bind fun r20 => fM_year_l25 xfu v1 (0 : Int32) r20)
set_option maxRecDepth 100000 in
set_option maxHeartbeats 4000000 in
theorem kM_year_l25 (G : xG)   (z : xM)    : ∀ (n : Nat) (v1 : Int32) (v2 : Int32) (m : xM), xR G yyM_year (emim z) 25 [(0, .ref (xa G 85)), (1, .int v1), (2, .int v2)] [] (z, m) (fM_year_l25  n v1 v2 m) := by
  intro n
  induction n with
  | zero =>
    intro v1 v2 m
    rw [fM_year_l25]
    exact xR_none
  | succ n ih =>
    intro v1 v2 m
    rw [fM_year_l25]
    refine xR_iln 25 2 dM_year_25 rfl rfl ?_
    refine xR_iln 26 1 dM_year_26 rfl rfl ?_
    refine xR_icge 27 53 dM_year_27 (by decide) ?_ ?_
    · refine xR_aln 53 0 dM_year_53 rfl rfl ?_
      refine xR_bp 54 (32 : Int32) dM_year_54 (by decide) ?_
      refine xR_callVi 56 cv_M_sumOf ml_RX9_174 ⟨Nat.le_of_ble_eq_true rfl, Nat.le_of_ble_eq_true rfl⟩ xcf7 rfl 85 (by decide) rfl [.int (32 : Int32)] rfl rfl (Nat.le_of_ble_eq_true rfl) dM_year_56 (kM_sumOf G z m (32 : Int32)) (fun r56 => ?_)
      exact xR_iret 59 rfl rfl dM_year_59
    · refine xR_aln 30 0 dM_year_30 rfl rfl ?_
      refine xR_getf 31 xcf7 0 85 (by decide) (by decide) rfl (v := .ref (xa G 86)) rfl fl_RX9_7 dM_year_31 ?_
      refine xR_ic 34 (2 : Int32) dM_year_34 (by decide) ?_
      refine xR_iald 35 86 (by decide) rfl dM_year_35 ?_
      refine xR_sp 36 (999 : Int32) dM_year_36 (by decide) ?_
      refine xR_icge 39 53 dM_year_39 (by decide) ?_ ?_
      · refine xR_aln 53 0 dM_year_53 rfl rfl ?_
        refine xR_bp 54 (32 : Int32) dM_year_54 (by decide) ?_
        refine xR_callVi 56 cv_M_sumOf ml_RX9_174 ⟨Nat.le_of_ble_eq_true rfl, Nat.le_of_ble_eq_true rfl⟩ xcf7 rfl 85 (by decide) rfl [.int (32 : Int32)] rfl rfl (Nat.le_of_ble_eq_true rfl) dM_year_56 (kM_sumOf G z m (32 : Int32)) (fun r56 => ?_)
        exact xR_iret 59 rfl rfl dM_year_59
      · refine xR_aln 42 0 dM_year_42 rfl rfl ?_
        refine xR_ic 43 (0 : Int32) dM_year_43 (by decide) ?_
        refine xR_callVvm 44 cv_M_passes ml_RX9_130 ⟨Nat.le_of_ble_eq_true rfl, Nat.le_of_ble_eq_true rfl⟩ xcf7 rfl 85 (by decide) rfl [.int (0 : Int32)] rfl rfl (Nat.le_of_ble_eq_true rfl) dM_year_44 (kM_passes G z m (0 : Int32)) (fun r44 => ?_)
        refine xR_iinc 47 2 (v2 + 1) ([(2, .int (v2 + 1)), (0, .ref (xa G 85)), (1, .int v1)]) dM_year_47 rfl rfl (by decide) rfl ?_
        refine xR_goto 50 25 dM_year_50 (by decide) ?_
        exact xR_sub [1, 2, 0] rfl (ih v1 (v2 + 1) r44)
set_option maxRecDepth 100000 in
set_option maxHeartbeats 4000000 in
theorem kM_year (G : xG)   (z : xM) (m : xM) (v1 : Int32) : ∀ a, fM_year  v1 m = some a → xCt G yyM_year [.ref (xa G 85), .int v1] (z, m) (some (.int a.1)) (z, a.2) := by
  refine xR_ct (em := (emim z)) rfl (Nat.le_of_ble_eq_true rfl) ?_
  show xR G yyM_year _ 0 [(0, .ref (xa G 85)), (1, .int v1)] [] _ _
  unfold fM_year
  refine xR_iln 0 1 dM_year_0 rfl rfl ?_
  refine xR_i2l 1 dM_year_1 ?_
  refine xR_lc 2 (1 : Int64) dM_year_2 (by decide) ?_
  refine xR_ldc2 3 cl_RX9_169 dM_year_3 ?_
  refine xR_callSi 6 cs_M_in ml_RX9_40 ⟨Nat.le_of_ble_eq_true rfl, Nat.le_of_ble_eq_true rfl⟩ [.long ((v1).toInt64), .long (1 : Int64), .long (60 : Int64)] rfl rfl (Nat.le_of_ble_eq_true rfl) dM_year_6 (kM_in G (z, m) ((v1).toInt64) (1 : Int64) (60 : Int64)) (fun r6 => ?_)
  refine xR_ifne 9 19 dM_year_9 (by decide) ?_ ?_
  · refine xR_aln 19 0 dM_year_19 rfl rfl ?_
    refine xR_callVvm 20 cv_M_minds ml_RX9_171 ⟨Nat.le_of_ble_eq_true rfl, Nat.le_of_ble_eq_true rfl⟩ xcf7 rfl 85 (by decide) rfl [] rfl rfl (Nat.le_of_ble_eq_true rfl) dM_year_20 (kM_minds G z m) (fun r20 => ?_)
    refine xR_ic 23 (0 : Int32) dM_year_23 (by decide) ?_
    refine xR_isn 24 ([(2, .int (0 : Int32)), (0, .ref (xa G 85)), (1, .int v1)]) dM_year_24 rfl (by decide) rfl ?_
    exact xR_sub [1, 2, 0] rfl (kM_year_l25 G z xfu v1 (0 : Int32) r20)
  · refine xR_aln 12 0 dM_year_12 rfl rfl ?_
    refine xR_bp 13 (-2 : Int32) dM_year_13 (by decide) ?_
    refine xR_callVim 15 cv_M_bad ml_RX9_66 ⟨Nat.le_of_ble_eq_true rfl, Nat.le_of_ble_eq_true rfl⟩ xcf7 rfl 85 (by decide) rfl [.int (-2 : Int32)] rfl rfl (Nat.le_of_ble_eq_true rfl) dM_year_15 (kM_bad G z m (-2 : Int32)) (fun r15 => ?_)
    exact xR_iret 18 rfl rfl dM_year_18
theorem dM_cuts_0 : decode (xb yyM_cuts) 0 = .ok (.aload_n 0, 1) := by decide +kernel
theorem dM_cuts_1 : decode (xb yyM_cuts) 1 = .ok (.iload_n 1, 1) := by decide +kernel
theorem dM_cuts_2 : decode (xb yyM_cuts) 2 = .ok (.invokevirtual 84, 3) := by decide +kernel
theorem dM_cuts_5 : decode (xb yyM_cuts) 5 = .ok (.ifCond .eq 11, 3) := by decide +kernel
theorem dM_cuts_8 : decode (xb yyM_cuts) 8 = .ok (.aload_n 0, 1) := by decide +kernel
theorem dM_cuts_9 : decode (xb yyM_cuts) 9 = .ok (.iload_n 2, 1) := by decide +kernel
theorem dM_cuts_10 : decode (xb yyM_cuts) 10 = .ok (.invokevirtual 177, 3) := by decide +kernel
theorem dM_cuts_13 : decode (xb yyM_cuts) 13 = .ok (.ifCond .ne 10, 3) := by decide +kernel
theorem dM_cuts_16 : decode (xb yyM_cuts) 16 = .ok (.aload_n 0, 1) := by decide +kernel
theorem dM_cuts_17 : decode (xb yyM_cuts) 17 = .ok (.bipush (-2), 2) := by decide +kernel
theorem dM_cuts_19 : decode (xb yyM_cuts) 19 = .ok (.invokevirtual 66, 3) := by decide +kernel
theorem dM_cuts_22 : decode (xb yyM_cuts) 22 = .ok (.ireturn, 1) := by decide +kernel
theorem dM_cuts_23 : decode (xb yyM_cuts) 23 = .ok (.aload_n 0, 1) := by decide +kernel
theorem dM_cuts_24 : decode (xb yyM_cuts) 24 = .ok (.getfield 7, 3) := by decide +kernel
theorem dM_cuts_27 : decode (xb yyM_cuts) 27 = .ok (.bipush 38, 2) := by decide +kernel
theorem dM_cuts_29 : decode (xb yyM_cuts) 29 = .ok (.iload_n 1, 1) := by decide +kernel
theorem dM_cuts_30 : decode (xb yyM_cuts) 30 = .ok (.iadd, 1) := by decide +kernel
theorem dM_cuts_31 : decode (xb yyM_cuts) 31 = .ok (.iaload, 1) := by decide +kernel
theorem dM_cuts_32 : decode (xb yyM_cuts) 32 = .ok (.iconst (-1), 1) := by decide +kernel
theorem dM_cuts_33 : decode (xb yyM_cuts) 33 = .ok (.if_icmp .eq 8, 3) := by decide +kernel
theorem dM_cuts_36 : decode (xb yyM_cuts) 36 = .ok (.aload_n 0, 1) := by decide +kernel
theorem dM_cuts_37 : decode (xb yyM_cuts) 37 = .ok (.invokevirtual 180, 3) := by decide +kernel
theorem dM_cuts_40 : decode (xb yyM_cuts) 40 = .ok (.ireturn, 1) := by decide +kernel
theorem dM_cuts_41 : decode (xb yyM_cuts) 41 = .ok (.aload_n 0, 1) := by decide +kernel
theorem dM_cuts_42 : decode (xb yyM_cuts) 42 = .ok (.iconst 0, 1) := by decide +kernel
theorem dM_cuts_43 : decode (xb yyM_cuts) 43 = .ok (.iload_n 2, 1) := by decide +kernel
theorem dM_cuts_44 : decode (xb yyM_cuts) 44 = .ok (.invokevirtual 127, 3) := by decide +kernel
theorem dM_cuts_47 : decode (xb yyM_cuts) 47 = .ok (.iconst 4, 1) := by decide +kernel
theorem dM_cuts_48 : decode (xb yyM_cuts) 48 = .ok (.if_icmp .ne 8, 3) := by decide +kernel
theorem dM_cuts_51 : decode (xb yyM_cuts) 51 = .ok (.aload_n 0, 1) := by decide +kernel
theorem dM_cuts_52 : decode (xb yyM_cuts) 52 = .ok (.invokevirtual 76, 3) := by decide +kernel
theorem dM_cuts_55 : decode (xb yyM_cuts) 55 = .ok (.ireturn, 1) := by decide +kernel
theorem dM_cuts_56 : decode (xb yyM_cuts) 56 = .ok (.aload_n 0, 1) := by decide +kernel
theorem dM_cuts_57 : decode (xb yyM_cuts) 57 = .ok (.invokevirtual 171, 3) := by decide +kernel
theorem dM_cuts_60 : decode (xb yyM_cuts) 60 = .ok (.aload_n 0, 1) := by decide +kernel
theorem dM_cuts_61 : decode (xb yyM_cuts) 61 = .ok (.getfield 7, 3) := by decide +kernel
theorem dM_cuts_64 : decode (xb yyM_cuts) 64 = .ok (.bipush 38, 2) := by decide +kernel
theorem dM_cuts_66 : decode (xb yyM_cuts) 66 = .ok (.iload_n 1, 1) := by decide +kernel
theorem dM_cuts_67 : decode (xb yyM_cuts) 67 = .ok (.iadd, 1) := by decide +kernel
theorem dM_cuts_68 : decode (xb yyM_cuts) 68 = .ok (.iload_n 2, 1) := by decide +kernel
theorem dM_cuts_69 : decode (xb yyM_cuts) 69 = .ok (.iastore, 1) := by decide +kernel
theorem dM_cuts_70 : decode (xb yyM_cuts) 70 = .ok (.aload_n 0, 1) := by decide +kernel
theorem dM_cuts_71 : decode (xb yyM_cuts) 71 = .ok (.iconst 0, 1) := by decide +kernel
theorem dM_cuts_72 : decode (xb yyM_cuts) 72 = .ok (.iload_n 2, 1) := by decide +kernel
theorem dM_cuts_73 : decode (xb yyM_cuts) 73 = .ok (.invokevirtual 127, 3) := by decide +kernel
theorem dM_cuts_76 : decode (xb yyM_cuts) 76 = .ok (.ireturn, 1) := by decide +kernel
def fM_cuts  (v1 : Int32) (v2 : Int32) (m : xM) : Option (Int32 × xM) := (fM_isBoard m v1).bind fun r2 => (if r2 = 0 then (fM_bad (-2 : Int32) m).bind fun r19 => some (r19.1, r19.2) else (fM_isInstrument m v2).bind fun r10 => (if r10 = 0 then (fM_bad (-2 : Int32) m).bind fun r19 => some (r19.1, r19.2) else xck 1752 ((38 : Int32) + v1) ((if (m.1 0 ((38 : Int32) + v1).toNatClampNeg) = (-1 : Int32) then (fM_boardsOf m (0 : Int32) v2).bind fun r44 => (if r44 = (4 : Int32) then (fM_full m).bind fun r52 => some (r52.1, r52.2) else (fM_minds m).bind fun r57 => xck 1752 ((38 : Int32) + v1) ((fM_boardsOf (xset r57 0 ((38 : Int32) + v1).toNatClampNeg v2) (0 : Int32) v2).bind fun r73 => some (r73, (xset r57 0 ((38 : Int32) + v1).toNatClampNeg v2)))) else (fM_no m).bind fun r37 => some (r37.1, r37.2)))))
set_option maxRecDepth 100000 in
set_option maxHeartbeats 4000000 in
theorem kM_cuts (G : xG)   (z : xM) (m : xM) (v1 : Int32) (v2 : Int32) : ∀ a, fM_cuts  v1 v2 m = some a → xCt G yyM_cuts [.ref (xa G 85), .int v1, .int v2] (z, m) (some (.int a.1)) (z, a.2) := by
  refine xR_ct (em := (emim z)) rfl (Nat.le_of_ble_eq_true rfl) ?_
  show xR G yyM_cuts _ 0 [(0, .ref (xa G 85)), (1, .int v1), (2, .int v2)] [] _ _
  unfold fM_cuts
  refine xR_aln 0 0 dM_cuts_0 rfl rfl ?_
  refine xR_iln 1 1 dM_cuts_1 rfl rfl ?_
  refine xR_callVi 2 cv_M_isBoard ml_RX9_84 ⟨Nat.le_of_ble_eq_true rfl, Nat.le_of_ble_eq_true rfl⟩ xcf7 rfl 85 (by decide) rfl [.int v1] rfl rfl (Nat.le_of_ble_eq_true rfl) dM_cuts_2 (kM_isBoard G z m v1) (fun r2 => ?_)
  refine xR_ifeq 5 16 dM_cuts_5 (by decide) ?_ ?_
  · refine xR_aln 16 0 dM_cuts_16 rfl rfl ?_
    refine xR_bp 17 (-2 : Int32) dM_cuts_17 (by decide) ?_
    refine xR_callVim 19 cv_M_bad ml_RX9_66 ⟨Nat.le_of_ble_eq_true rfl, Nat.le_of_ble_eq_true rfl⟩ xcf7 rfl 85 (by decide) rfl [.int (-2 : Int32)] rfl rfl (Nat.le_of_ble_eq_true rfl) dM_cuts_19 (kM_bad G z m (-2 : Int32)) (fun r19 => ?_)
    exact xR_iret 22 rfl rfl dM_cuts_22
  · refine xR_aln 8 0 dM_cuts_8 rfl rfl ?_
    refine xR_iln 9 2 dM_cuts_9 rfl rfl ?_
    refine xR_callVi 10 cv_M_isInstrument ml_RX9_177 ⟨Nat.le_of_ble_eq_true rfl, Nat.le_of_ble_eq_true rfl⟩ xcf7 rfl 85 (by decide) rfl [.int v2] rfl rfl (Nat.le_of_ble_eq_true rfl) dM_cuts_10 (kM_isInstrument G z m v2) (fun r10 => ?_)
    refine xR_ifne 13 23 dM_cuts_13 (by decide) ?_ ?_
    · refine xR_aln 23 0 dM_cuts_23 rfl rfl ?_
      refine xR_getf 24 xcf7 0 85 (by decide) (by decide) rfl (v := .ref (xa G 86)) rfl fl_RX9_7 dM_cuts_24 ?_
      refine xR_bp 27 (38 : Int32) dM_cuts_27 (by decide) ?_
      refine xR_iln 29 1 dM_cuts_29 rfl rfl ?_
      refine xR_iadd 30 dM_cuts_30 ?_
      refine xR_iald 31 86 (by decide) rfl dM_cuts_31 ?_
      refine xR_ic 32 (-1 : Int32) dM_cuts_32 (by decide) ?_
      refine xR_iceq 33 41 dM_cuts_33 (by decide) ?_ ?_
      · refine xR_aln 41 0 dM_cuts_41 rfl rfl ?_
        refine xR_ic 42 (0 : Int32) dM_cuts_42 (by decide) ?_
        refine xR_iln 43 2 dM_cuts_43 rfl rfl ?_
        refine xR_callVi 44 cv_M_boardsOf ml_RX9_127 ⟨Nat.le_of_ble_eq_true rfl, Nat.le_of_ble_eq_true rfl⟩ xcf7 rfl 85 (by decide) rfl [.int (0 : Int32), .int v2] rfl rfl (Nat.le_of_ble_eq_true rfl) dM_cuts_44 (kM_boardsOf G z m (0 : Int32) v2) (fun r44 => ?_)
        refine xR_ic 47 (4 : Int32) dM_cuts_47 (by decide) ?_
        refine xR_icne 48 56 dM_cuts_48 (by decide) ?_ ?_
        · refine xR_aln 56 0 dM_cuts_56 rfl rfl ?_
          refine xR_callVvm 57 cv_M_minds ml_RX9_171 ⟨Nat.le_of_ble_eq_true rfl, Nat.le_of_ble_eq_true rfl⟩ xcf7 rfl 85 (by decide) rfl [] rfl rfl (Nat.le_of_ble_eq_true rfl) dM_cuts_57 (kM_minds G z m) (fun r57 => ?_)
          refine xR_aln 60 0 dM_cuts_60 rfl rfl ?_
          refine xR_getf 61 xcf7 0 85 (by decide) (by decide) rfl (v := .ref (xa G 86)) rfl fl_RX9_7 dM_cuts_61 ?_
          refine xR_bp 64 (38 : Int32) dM_cuts_64 (by decide) ?_
          refine xR_iln 66 1 dM_cuts_66 rfl rfl ?_
          refine xR_iadd 67 dM_cuts_67 ?_
          refine xR_iln 68 2 dM_cuts_68 rfl rfl ?_
          refine xR_iast 69 86 (by decide) rfl (z, (xset r57 0 ((38 : Int32) + v1).toNatClampNeg v2)) xW_m0 dM_cuts_69 ?_
          refine xR_aln 70 0 dM_cuts_70 rfl rfl ?_
          refine xR_ic 71 (0 : Int32) dM_cuts_71 (by decide) ?_
          refine xR_iln 72 2 dM_cuts_72 rfl rfl ?_
          refine xR_callVi 73 cv_M_boardsOf ml_RX9_127 ⟨Nat.le_of_ble_eq_true rfl, Nat.le_of_ble_eq_true rfl⟩ xcf7 rfl 85 (by decide) rfl [.int (0 : Int32), .int v2] rfl rfl (Nat.le_of_ble_eq_true rfl) dM_cuts_73 (kM_boardsOf G z (xset r57 0 ((38 : Int32) + v1).toNatClampNeg v2) (0 : Int32) v2) (fun r73 => ?_)
          exact xR_iret 76 rfl rfl dM_cuts_76
        · refine xR_aln 51 0 dM_cuts_51 rfl rfl ?_
          refine xR_callVim 52 cv_M_full ml_RX9_76 ⟨Nat.le_of_ble_eq_true rfl, Nat.le_of_ble_eq_true rfl⟩ xcf7 rfl 85 (by decide) rfl [] rfl rfl (Nat.le_of_ble_eq_true rfl) dM_cuts_52 (kM_full G z m) (fun r52 => ?_)
          exact xR_iret 55 rfl rfl dM_cuts_55
      · refine xR_aln 36 0 dM_cuts_36 rfl rfl ?_
        refine xR_callVim 37 cv_M_no ml_RX9_180 ⟨Nat.le_of_ble_eq_true rfl, Nat.le_of_ble_eq_true rfl⟩ xcf7 rfl 85 (by decide) rfl [] rfl rfl (Nat.le_of_ble_eq_true rfl) dM_cuts_37 (kM_no G z m) (fun r37 => ?_)
        exact xR_iret 40 rfl rfl dM_cuts_40
    · refine xR_aln 16 0 dM_cuts_16 rfl rfl ?_
      refine xR_bp 17 (-2 : Int32) dM_cuts_17 (by decide) ?_
      refine xR_callVim 19 cv_M_bad ml_RX9_66 ⟨Nat.le_of_ble_eq_true rfl, Nat.le_of_ble_eq_true rfl⟩ xcf7 rfl 85 (by decide) rfl [.int (-2 : Int32)] rfl rfl (Nat.le_of_ble_eq_true rfl) dM_cuts_19 (kM_bad G z m (-2 : Int32)) (fun r19 => ?_)
      exact xR_iret 22 rfl rfl dM_cuts_22
theorem dM_takes_0 : decode (xb yyM_takes) 0 = .ok (.aload_n 0, 1) := by decide +kernel
theorem dM_takes_1 : decode (xb yyM_takes) 1 = .ok (.iload_n 1, 1) := by decide +kernel
theorem dM_takes_2 : decode (xb yyM_takes) 2 = .ok (.invokevirtual 84, 3) := by decide +kernel
theorem dM_takes_5 : decode (xb yyM_takes) 5 = .ok (.ifCond .ne 10, 3) := by decide +kernel
theorem dM_takes_8 : decode (xb yyM_takes) 8 = .ok (.aload_n 0, 1) := by decide +kernel
theorem dM_takes_9 : decode (xb yyM_takes) 9 = .ok (.bipush (-2), 2) := by decide +kernel
theorem dM_takes_11 : decode (xb yyM_takes) 11 = .ok (.invokevirtual 66, 3) := by decide +kernel
theorem dM_takes_14 : decode (xb yyM_takes) 14 = .ok (.ireturn, 1) := by decide +kernel
theorem dM_takes_15 : decode (xb yyM_takes) 15 = .ok (.aload_n 0, 1) := by decide +kernel
theorem dM_takes_16 : decode (xb yyM_takes) 16 = .ok (.getfield 7, 3) := by decide +kernel
theorem dM_takes_19 : decode (xb yyM_takes) 19 = .ok (.bipush 38, 2) := by decide +kernel
theorem dM_takes_21 : decode (xb yyM_takes) 21 = .ok (.iload_n 1, 1) := by decide +kernel
theorem dM_takes_22 : decode (xb yyM_takes) 22 = .ok (.iadd, 1) := by decide +kernel
theorem dM_takes_23 : decode (xb yyM_takes) 23 = .ok (.iaload, 1) := by decide +kernel
theorem dM_takes_24 : decode (xb yyM_takes) 24 = .ok (.istore_n 2, 1) := by decide +kernel
theorem dM_takes_25 : decode (xb yyM_takes) 25 = .ok (.iload_n 2, 1) := by decide +kernel
theorem dM_takes_26 : decode (xb yyM_takes) 26 = .ok (.iconst (-1), 1) := by decide +kernel
theorem dM_takes_27 : decode (xb yyM_takes) 27 = .ok (.if_icmp .ne 8, 3) := by decide +kernel
theorem dM_takes_30 : decode (xb yyM_takes) 30 = .ok (.aload_n 0, 1) := by decide +kernel
theorem dM_takes_31 : decode (xb yyM_takes) 31 = .ok (.invokevirtual 180, 3) := by decide +kernel
theorem dM_takes_34 : decode (xb yyM_takes) 34 = .ok (.ireturn, 1) := by decide +kernel
theorem dM_takes_35 : decode (xb yyM_takes) 35 = .ok (.aload_n 0, 1) := by decide +kernel
theorem dM_takes_36 : decode (xb yyM_takes) 36 = .ok (.invokevirtual 171, 3) := by decide +kernel
theorem dM_takes_39 : decode (xb yyM_takes) 39 = .ok (.aload_n 0, 1) := by decide +kernel
theorem dM_takes_40 : decode (xb yyM_takes) 40 = .ok (.getfield 7, 3) := by decide +kernel
theorem dM_takes_43 : decode (xb yyM_takes) 43 = .ok (.bipush 38, 2) := by decide +kernel
theorem dM_takes_45 : decode (xb yyM_takes) 45 = .ok (.iload_n 1, 1) := by decide +kernel
theorem dM_takes_46 : decode (xb yyM_takes) 46 = .ok (.iadd, 1) := by decide +kernel
theorem dM_takes_47 : decode (xb yyM_takes) 47 = .ok (.iconst (-1), 1) := by decide +kernel
theorem dM_takes_48 : decode (xb yyM_takes) 48 = .ok (.iastore, 1) := by decide +kernel
theorem dM_takes_49 : decode (xb yyM_takes) 49 = .ok (.iload_n 2, 1) := by decide +kernel
theorem dM_takes_50 : decode (xb yyM_takes) 50 = .ok (.ireturn, 1) := by decide +kernel
def fM_takes  (v1 : Int32) (m : xM) : Option (Int32 × xM) := (fM_isBoard m v1).bind fun r2 => (if r2 = 0 then (fM_bad (-2 : Int32) m).bind fun r11 => some (r11.1, r11.2) else xck 1752 ((38 : Int32) + v1) ((if (m.1 0 ((38 : Int32) + v1).toNatClampNeg) = (-1 : Int32) then (fM_no m).bind fun r31 => some (r31.1, r31.2) else (fM_minds m).bind fun r36 => xck 1752 ((38 : Int32) + v1) (some ((m.1 0 ((38 : Int32) + v1).toNatClampNeg), (xset r36 0 ((38 : Int32) + v1).toNatClampNeg (-1 : Int32)))))))
set_option maxRecDepth 100000 in
set_option maxHeartbeats 4000000 in
theorem kM_takes (G : xG)   (z : xM) (m : xM) (v1 : Int32) : ∀ a, fM_takes  v1 m = some a → xCt G yyM_takes [.ref (xa G 85), .int v1] (z, m) (some (.int a.1)) (z, a.2) := by
  refine xR_ct (em := (emim z)) rfl (Nat.le_of_ble_eq_true rfl) ?_
  show xR G yyM_takes _ 0 [(0, .ref (xa G 85)), (1, .int v1)] [] _ _
  unfold fM_takes
  refine xR_aln 0 0 dM_takes_0 rfl rfl ?_
  refine xR_iln 1 1 dM_takes_1 rfl rfl ?_
  refine xR_callVi 2 cv_M_isBoard ml_RX9_84 ⟨Nat.le_of_ble_eq_true rfl, Nat.le_of_ble_eq_true rfl⟩ xcf7 rfl 85 (by decide) rfl [.int v1] rfl rfl (Nat.le_of_ble_eq_true rfl) dM_takes_2 (kM_isBoard G z m v1) (fun r2 => ?_)
  refine xR_ifne 5 15 dM_takes_5 (by decide) ?_ ?_
  · refine xR_aln 15 0 dM_takes_15 rfl rfl ?_
    refine xR_getf 16 xcf7 0 85 (by decide) (by decide) rfl (v := .ref (xa G 86)) rfl fl_RX9_7 dM_takes_16 ?_
    refine xR_bp 19 (38 : Int32) dM_takes_19 (by decide) ?_
    refine xR_iln 21 1 dM_takes_21 rfl rfl ?_
    refine xR_iadd 22 dM_takes_22 ?_
    refine xR_iald 23 86 (by decide) rfl dM_takes_23 ?_
    refine xR_isn 24 ([(2, .int (m.1 0 ((38 : Int32) + v1).toNatClampNeg)), (0, .ref (xa G 85)), (1, .int v1)]) dM_takes_24 rfl (by decide) rfl ?_
    refine xR_iln 25 0 dM_takes_25 rfl rfl ?_
    refine xR_ic 26 (-1 : Int32) dM_takes_26 (by decide) ?_
    refine xR_icne 27 35 dM_takes_27 (by decide) ?_ ?_
    · refine xR_aln 35 1 dM_takes_35 rfl rfl ?_
      refine xR_callVvm 36 cv_M_minds ml_RX9_171 ⟨Nat.le_of_ble_eq_true rfl, Nat.le_of_ble_eq_true rfl⟩ xcf7 rfl 85 (by decide) rfl [] rfl rfl (Nat.le_of_ble_eq_true rfl) dM_takes_36 (kM_minds G z m) (fun r36 => ?_)
      refine xR_aln 39 1 dM_takes_39 rfl rfl ?_
      refine xR_getf 40 xcf7 0 85 (by decide) (by decide) rfl (v := .ref (xa G 86)) rfl fl_RX9_7 dM_takes_40 ?_
      refine xR_bp 43 (38 : Int32) dM_takes_43 (by decide) ?_
      refine xR_iln 45 2 dM_takes_45 rfl rfl ?_
      refine xR_iadd 46 dM_takes_46 ?_
      refine xR_ic 47 (-1 : Int32) dM_takes_47 (by decide) ?_
      refine xR_iast 48 86 (by decide) rfl (z, (xset r36 0 ((38 : Int32) + v1).toNatClampNeg (-1 : Int32))) xW_m0 dM_takes_48 ?_
      refine xR_iln 49 0 dM_takes_49 rfl rfl ?_
      exact xR_iret 50 rfl rfl dM_takes_50
    · refine xR_aln 30 1 dM_takes_30 rfl rfl ?_
      refine xR_callVim 31 cv_M_no ml_RX9_180 ⟨Nat.le_of_ble_eq_true rfl, Nat.le_of_ble_eq_true rfl⟩ xcf7 rfl 85 (by decide) rfl [] rfl rfl (Nat.le_of_ble_eq_true rfl) dM_takes_31 (kM_no G z m) (fun r31 => ?_)
      exact xR_iret 34 rfl rfl dM_takes_34
  · refine xR_aln 8 0 dM_takes_8 rfl rfl ?_
    refine xR_bp 9 (-2 : Int32) dM_takes_9 (by decide) ?_
    refine xR_callVim 11 cv_M_bad ml_RX9_66 ⟨Nat.le_of_ble_eq_true rfl, Nat.le_of_ble_eq_true rfl⟩ xcf7 rfl 85 (by decide) rfl [.int (-2 : Int32)] rfl rfl (Nat.le_of_ble_eq_true rfl) dM_takes_11 (kM_bad G z m (-2 : Int32)) (fun r11 => ?_)
    exact xR_iret 14 rfl rfl dM_takes_14
theorem dM_dries_0 : decode (xb yyM_dries) 0 = .ok (.aload_n 0, 1) := by decide +kernel
theorem dM_dries_1 : decode (xb yyM_dries) 1 = .ok (.iload_n 1, 1) := by decide +kernel
theorem dM_dries_2 : decode (xb yyM_dries) 2 = .ok (.invokevirtual 84, 3) := by decide +kernel
theorem dM_dries_5 : decode (xb yyM_dries) 5 = .ok (.ifCond .eq 15, 3) := by decide +kernel
theorem dM_dries_8 : decode (xb yyM_dries) 8 = .ok (.iload_n 2, 1) := by decide +kernel
theorem dM_dries_9 : decode (xb yyM_dries) 9 = .ok (.i2l, 1) := by decide +kernel
theorem dM_dries_10 : decode (xb yyM_dries) 10 = .ok (.lconst 1, 1) := by decide +kernel
theorem dM_dries_11 : decode (xb yyM_dries) 11 = .ok (.ldc2_w 74, 3) := by decide +kernel
theorem dM_dries_14 : decode (xb yyM_dries) 14 = .ok (.invokestatic 40, 3) := by decide +kernel
theorem dM_dries_17 : decode (xb yyM_dries) 17 = .ok (.ifCond .ne 10, 3) := by decide +kernel
theorem dM_dries_20 : decode (xb yyM_dries) 20 = .ok (.aload_n 0, 1) := by decide +kernel
theorem dM_dries_21 : decode (xb yyM_dries) 21 = .ok (.bipush (-2), 2) := by decide +kernel
theorem dM_dries_23 : decode (xb yyM_dries) 23 = .ok (.invokevirtual 66, 3) := by decide +kernel
theorem dM_dries_26 : decode (xb yyM_dries) 26 = .ok (.ireturn, 1) := by decide +kernel
theorem dM_dries_27 : decode (xb yyM_dries) 27 = .ok (.aload_n 0, 1) := by decide +kernel
theorem dM_dries_28 : decode (xb yyM_dries) 28 = .ok (.getfield 7, 3) := by decide +kernel
theorem dM_dries_31 : decode (xb yyM_dries) 31 = .ok (.bipush 20, 2) := by decide +kernel
theorem dM_dries_33 : decode (xb yyM_dries) 33 = .ok (.iload_n 1, 1) := by decide +kernel
theorem dM_dries_34 : decode (xb yyM_dries) 34 = .ok (.iadd, 1) := by decide +kernel
theorem dM_dries_35 : decode (xb yyM_dries) 35 = .ok (.iaload, 1) := by decide +kernel
theorem dM_dries_36 : decode (xb yyM_dries) 36 = .ok (.ifCond .ne 8, 3) := by decide +kernel
theorem dM_dries_39 : decode (xb yyM_dries) 39 = .ok (.aload_n 0, 1) := by decide +kernel
theorem dM_dries_40 : decode (xb yyM_dries) 40 = .ok (.invokevirtual 180, 3) := by decide +kernel
theorem dM_dries_43 : decode (xb yyM_dries) 43 = .ok (.ireturn, 1) := by decide +kernel
theorem dM_dries_44 : decode (xb yyM_dries) 44 = .ok (.aload_n 0, 1) := by decide +kernel
theorem dM_dries_45 : decode (xb yyM_dries) 45 = .ok (.invokevirtual 171, 3) := by decide +kernel
theorem dM_dries_48 : decode (xb yyM_dries) 48 = .ok (.aload_n 0, 1) := by decide +kernel
theorem dM_dries_49 : decode (xb yyM_dries) 49 = .ok (.getfield 7, 3) := by decide +kernel
theorem dM_dries_52 : decode (xb yyM_dries) 52 = .ok (.bipush 20, 2) := by decide +kernel
theorem dM_dries_54 : decode (xb yyM_dries) 54 = .ok (.iload_n 1, 1) := by decide +kernel
theorem dM_dries_55 : decode (xb yyM_dries) 55 = .ok (.iadd, 1) := by decide +kernel
theorem dM_dries_56 : decode (xb yyM_dries) 56 = .ok (.aload_n 0, 1) := by decide +kernel
theorem dM_dries_57 : decode (xb yyM_dries) 57 = .ok (.getfield 7, 3) := by decide +kernel
theorem dM_dries_60 : decode (xb yyM_dries) 60 = .ok (.bipush 20, 2) := by decide +kernel
theorem dM_dries_62 : decode (xb yyM_dries) 62 = .ok (.iload_n 1, 1) := by decide +kernel
theorem dM_dries_63 : decode (xb yyM_dries) 63 = .ok (.iadd, 1) := by decide +kernel
theorem dM_dries_64 : decode (xb yyM_dries) 64 = .ok (.iaload, 1) := by decide +kernel
theorem dM_dries_65 : decode (xb yyM_dries) 65 = .ok (.iload_n 2, 1) := by decide +kernel
theorem dM_dries_66 : decode (xb yyM_dries) 66 = .ok (.invokestatic 183, 3) := by decide +kernel
theorem dM_dries_69 : decode (xb yyM_dries) 69 = .ok (.iastore, 1) := by decide +kernel
theorem dM_dries_70 : decode (xb yyM_dries) 70 = .ok (.aload_n 0, 1) := by decide +kernel
theorem dM_dries_71 : decode (xb yyM_dries) 71 = .ok (.getfield 7, 3) := by decide +kernel
theorem dM_dries_74 : decode (xb yyM_dries) 74 = .ok (.bipush 20, 2) := by decide +kernel
theorem dM_dries_76 : decode (xb yyM_dries) 76 = .ok (.iload_n 1, 1) := by decide +kernel
theorem dM_dries_77 : decode (xb yyM_dries) 77 = .ok (.iadd, 1) := by decide +kernel
theorem dM_dries_78 : decode (xb yyM_dries) 78 = .ok (.iaload, 1) := by decide +kernel
theorem dM_dries_79 : decode (xb yyM_dries) 79 = .ok (.ireturn, 1) := by decide +kernel
def fM_dries  (v1 : Int32) (v2 : Int32) (m : xM) : Option (Int32 × xM) := (fM_isBoard m v1).bind fun r2 => (if r2 = 0 then (fM_bad (-2 : Int32) m).bind fun r23 => some (r23.1, r23.2) else (fM_in ((v2).toInt64) (1 : Int64) (9 : Int64)).bind fun r14 => (if r14 = 0 then (fM_bad (-2 : Int32) m).bind fun r23 => some (r23.1, r23.2) else xck 1752 ((20 : Int32) + v1) ((if (m.1 0 ((20 : Int32) + v1).toNatClampNeg) = 0 then (fM_no m).bind fun r40 => some (r40.1, r40.2) else (fM_minds m).bind fun r45 => xck 1752 ((20 : Int32) + v1) ((fM_less (r45.1 0 ((20 : Int32) + v1).toNatClampNeg) v2).bind fun r66 => xck 1752 ((20 : Int32) + v1) (xck 1752 ((20 : Int32) + v1) (some (((xset r45 0 ((20 : Int32) + v1).toNatClampNeg r66).1 0 ((20 : Int32) + v1).toNatClampNeg), (xset r45 0 ((20 : Int32) + v1).toNatClampNeg r66)))))))))
set_option maxRecDepth 100000 in
set_option maxHeartbeats 4000000 in
theorem kM_dries (G : xG)   (z : xM) (m : xM) (v1 : Int32) (v2 : Int32) : ∀ a, fM_dries  v1 v2 m = some a → xCt G yyM_dries [.ref (xa G 85), .int v1, .int v2] (z, m) (some (.int a.1)) (z, a.2) := by
  refine xR_ct (em := (emim z)) rfl (Nat.le_of_ble_eq_true rfl) ?_
  show xR G yyM_dries _ 0 [(0, .ref (xa G 85)), (1, .int v1), (2, .int v2)] [] _ _
  unfold fM_dries
  refine xR_aln 0 0 dM_dries_0 rfl rfl ?_
  refine xR_iln 1 1 dM_dries_1 rfl rfl ?_
  refine xR_callVi 2 cv_M_isBoard ml_RX9_84 ⟨Nat.le_of_ble_eq_true rfl, Nat.le_of_ble_eq_true rfl⟩ xcf7 rfl 85 (by decide) rfl [.int v1] rfl rfl (Nat.le_of_ble_eq_true rfl) dM_dries_2 (kM_isBoard G z m v1) (fun r2 => ?_)
  refine xR_ifeq 5 20 dM_dries_5 (by decide) ?_ ?_
  · refine xR_aln 20 0 dM_dries_20 rfl rfl ?_
    refine xR_bp 21 (-2 : Int32) dM_dries_21 (by decide) ?_
    refine xR_callVim 23 cv_M_bad ml_RX9_66 ⟨Nat.le_of_ble_eq_true rfl, Nat.le_of_ble_eq_true rfl⟩ xcf7 rfl 85 (by decide) rfl [.int (-2 : Int32)] rfl rfl (Nat.le_of_ble_eq_true rfl) dM_dries_23 (kM_bad G z m (-2 : Int32)) (fun r23 => ?_)
    exact xR_iret 26 rfl rfl dM_dries_26
  · refine xR_iln 8 2 dM_dries_8 rfl rfl ?_
    refine xR_i2l 9 dM_dries_9 ?_
    refine xR_lc 10 (1 : Int64) dM_dries_10 (by decide) ?_
    refine xR_ldc2 11 cl_RX9_74 dM_dries_11 ?_
    refine xR_callSi 14 cs_M_in ml_RX9_40 ⟨Nat.le_of_ble_eq_true rfl, Nat.le_of_ble_eq_true rfl⟩ [.long ((v2).toInt64), .long (1 : Int64), .long (9 : Int64)] rfl rfl (Nat.le_of_ble_eq_true rfl) dM_dries_14 (kM_in G (z, m) ((v2).toInt64) (1 : Int64) (9 : Int64)) (fun r14 => ?_)
    refine xR_ifne 17 27 dM_dries_17 (by decide) ?_ ?_
    · refine xR_aln 27 0 dM_dries_27 rfl rfl ?_
      refine xR_getf 28 xcf7 0 85 (by decide) (by decide) rfl (v := .ref (xa G 86)) rfl fl_RX9_7 dM_dries_28 ?_
      refine xR_bp 31 (20 : Int32) dM_dries_31 (by decide) ?_
      refine xR_iln 33 1 dM_dries_33 rfl rfl ?_
      refine xR_iadd 34 dM_dries_34 ?_
      refine xR_iald 35 86 (by decide) rfl dM_dries_35 ?_
      refine xR_ifne 36 44 dM_dries_36 (by decide) ?_ ?_
      · refine xR_aln 44 0 dM_dries_44 rfl rfl ?_
        refine xR_callVvm 45 cv_M_minds ml_RX9_171 ⟨Nat.le_of_ble_eq_true rfl, Nat.le_of_ble_eq_true rfl⟩ xcf7 rfl 85 (by decide) rfl [] rfl rfl (Nat.le_of_ble_eq_true rfl) dM_dries_45 (kM_minds G z m) (fun r45 => ?_)
        refine xR_aln 48 0 dM_dries_48 rfl rfl ?_
        refine xR_getf 49 xcf7 0 85 (by decide) (by decide) rfl (v := .ref (xa G 86)) rfl fl_RX9_7 dM_dries_49 ?_
        refine xR_bp 52 (20 : Int32) dM_dries_52 (by decide) ?_
        refine xR_iln 54 1 dM_dries_54 rfl rfl ?_
        refine xR_iadd 55 dM_dries_55 ?_
        refine xR_aln 56 0 dM_dries_56 rfl rfl ?_
        refine xR_getf 57 xcf7 0 85 (by decide) (by decide) rfl (v := .ref (xa G 86)) rfl fl_RX9_7 dM_dries_57 ?_
        refine xR_bp 60 (20 : Int32) dM_dries_60 (by decide) ?_
        refine xR_iln 62 1 dM_dries_62 rfl rfl ?_
        refine xR_iadd 63 dM_dries_63 ?_
        refine xR_iald 64 86 (by decide) rfl dM_dries_64 ?_
        refine xR_iln 65 2 dM_dries_65 rfl rfl ?_
        refine xR_callSi 66 cs_M_less ml_RX9_183 ⟨Nat.le_of_ble_eq_true rfl, Nat.le_of_ble_eq_true rfl⟩ [.int (r45.1 0 ((20 : Int32) + v1).toNatClampNeg), .int v2] rfl rfl (Nat.le_of_ble_eq_true rfl) dM_dries_66 (kM_less G (z, r45) (r45.1 0 ((20 : Int32) + v1).toNatClampNeg) v2) (fun r66 => ?_)
        refine xR_iast 69 86 (by decide) rfl (z, (xset r45 0 ((20 : Int32) + v1).toNatClampNeg r66)) xW_m0 dM_dries_69 ?_
        refine xR_aln 70 0 dM_dries_70 rfl rfl ?_
        refine xR_getf 71 xcf7 0 85 (by decide) (by decide) rfl (v := .ref (xa G 86)) rfl fl_RX9_7 dM_dries_71 ?_
        refine xR_bp 74 (20 : Int32) dM_dries_74 (by decide) ?_
        refine xR_iln 76 1 dM_dries_76 rfl rfl ?_
        refine xR_iadd 77 dM_dries_77 ?_
        refine xR_iald 78 86 (by decide) rfl dM_dries_78 ?_
        exact xR_iret 79 rfl rfl dM_dries_79
      · refine xR_aln 39 0 dM_dries_39 rfl rfl ?_
        refine xR_callVim 40 cv_M_no ml_RX9_180 ⟨Nat.le_of_ble_eq_true rfl, Nat.le_of_ble_eq_true rfl⟩ xcf7 rfl 85 (by decide) rfl [] rfl rfl (Nat.le_of_ble_eq_true rfl) dM_dries_40 (kM_no G z m) (fun r40 => ?_)
        exact xR_iret 43 rfl rfl dM_dries_43
    · refine xR_aln 20 0 dM_dries_20 rfl rfl ?_
      refine xR_bp 21 (-2 : Int32) dM_dries_21 (by decide) ?_
      refine xR_callVim 23 cv_M_bad ml_RX9_66 ⟨Nat.le_of_ble_eq_true rfl, Nat.le_of_ble_eq_true rfl⟩ xcf7 rfl 85 (by decide) rfl [.int (-2 : Int32)] rfl rfl (Nat.le_of_ble_eq_true rfl) dM_dries_23 (kM_bad G z m (-2 : Int32)) (fun r23 => ?_)
      exact xR_iret 26 rfl rfl dM_dries_26
theorem dM_undo_0 : decode (xb yyM_undo) 0 = .ok (.aload_n 0, 1) := by decide +kernel
theorem dM_undo_1 : decode (xb yyM_undo) 1 = .ok (.getfield 7, 3) := by decide +kernel
theorem dM_undo_4 : decode (xb yyM_undo) 4 = .ok (.sipush 129, 3) := by decide +kernel
theorem dM_undo_7 : decode (xb yyM_undo) 7 = .ok (.iaload, 1) := by decide +kernel
theorem dM_undo_8 : decode (xb yyM_undo) 8 = .ok (.ifCond .ne 8, 3) := by decide +kernel
theorem dM_undo_11 : decode (xb yyM_undo) 11 = .ok (.aload_n 0, 1) := by decide +kernel
theorem dM_undo_12 : decode (xb yyM_undo) 12 = .ok (.invokevirtual 180, 3) := by decide +kernel
theorem dM_undo_15 : decode (xb yyM_undo) 15 = .ok (.ireturn, 1) := by decide +kernel
theorem dM_undo_16 : decode (xb yyM_undo) 16 = .ok (.aload_n 0, 1) := by decide +kernel
theorem dM_undo_17 : decode (xb yyM_undo) 17 = .ok (.getfield 7, 3) := by decide +kernel
theorem dM_undo_20 : decode (xb yyM_undo) 20 = .ok (.sipush 129, 3) := by decide +kernel
theorem dM_undo_23 : decode (xb yyM_undo) 23 = .ok (.dup2, 1) := by decide +kernel
theorem dM_undo_24 : decode (xb yyM_undo) 24 = .ok (.iaload, 1) := by decide +kernel
theorem dM_undo_25 : decode (xb yyM_undo) 25 = .ok (.iconst 1, 1) := by decide +kernel
theorem dM_undo_26 : decode (xb yyM_undo) 26 = .ok (.isub, 1) := by decide +kernel
theorem dM_undo_27 : decode (xb yyM_undo) 27 = .ok (.iastore, 1) := by decide +kernel
theorem dM_undo_28 : decode (xb yyM_undo) 28 = .ok (.sipush 130, 3) := by decide +kernel
theorem dM_undo_31 : decode (xb yyM_undo) 31 = .ok (.bipush 37, 2) := by decide +kernel
theorem dM_undo_33 : decode (xb yyM_undo) 33 = .ok (.aload_n 0, 1) := by decide +kernel
theorem dM_undo_34 : decode (xb yyM_undo) 34 = .ok (.getfield 7, 3) := by decide +kernel
theorem dM_undo_37 : decode (xb yyM_undo) 37 = .ok (.sipush 129, 3) := by decide +kernel
theorem dM_undo_40 : decode (xb yyM_undo) 40 = .ok (.iaload, 1) := by decide +kernel
theorem dM_undo_41 : decode (xb yyM_undo) 41 = .ok (.imul, 1) := by decide +kernel
theorem dM_undo_42 : decode (xb yyM_undo) 42 = .ok (.iadd, 1) := by decide +kernel
theorem dM_undo_43 : decode (xb yyM_undo) 43 = .ok (.istore_n 1, 1) := by decide +kernel
theorem dM_undo_44 : decode (xb yyM_undo) 44 = .ok (.aload_n 0, 1) := by decide +kernel
theorem dM_undo_45 : decode (xb yyM_undo) 45 = .ok (.getfield 7, 3) := by decide +kernel
theorem dM_undo_48 : decode (xb yyM_undo) 48 = .ok (.iconst 2, 1) := by decide +kernel
theorem dM_undo_49 : decode (xb yyM_undo) 49 = .ok (.aload_n 0, 1) := by decide +kernel
theorem dM_undo_50 : decode (xb yyM_undo) 50 = .ok (.getfield 7, 3) := by decide +kernel
theorem dM_undo_53 : decode (xb yyM_undo) 53 = .ok (.iload_n 1, 1) := by decide +kernel
theorem dM_undo_54 : decode (xb yyM_undo) 54 = .ok (.iaload, 1) := by decide +kernel
theorem dM_undo_55 : decode (xb yyM_undo) 55 = .ok (.iastore, 1) := by decide +kernel
theorem dM_undo_56 : decode (xb yyM_undo) 56 = .ok (.iconst 0, 1) := by decide +kernel
theorem dM_undo_57 : decode (xb yyM_undo) 57 = .ok (.istore_n 2, 1) := by decide +kernel
theorem dM_undo_58 : decode (xb yyM_undo) 58 = .ok (.iload_n 2, 1) := by decide +kernel
theorem dM_undo_59 : decode (xb yyM_undo) 59 = .ok (.bipush 36, 2) := by decide +kernel
theorem dM_undo_61 : decode (xb yyM_undo) 61 = .ok (.if_icmp .ge 28, 3) := by decide +kernel
theorem dM_undo_64 : decode (xb yyM_undo) 64 = .ok (.aload_n 0, 1) := by decide +kernel
theorem dM_undo_65 : decode (xb yyM_undo) 65 = .ok (.getfield 7, 3) := by decide +kernel
theorem dM_undo_68 : decode (xb yyM_undo) 68 = .ok (.bipush 8, 2) := by decide +kernel
theorem dM_undo_70 : decode (xb yyM_undo) 70 = .ok (.iload_n 2, 1) := by decide +kernel
theorem dM_undo_71 : decode (xb yyM_undo) 71 = .ok (.iadd, 1) := by decide +kernel
theorem dM_undo_72 : decode (xb yyM_undo) 72 = .ok (.aload_n 0, 1) := by decide +kernel
theorem dM_undo_73 : decode (xb yyM_undo) 73 = .ok (.getfield 7, 3) := by decide +kernel
theorem dM_undo_76 : decode (xb yyM_undo) 76 = .ok (.iload_n 1, 1) := by decide +kernel
theorem dM_undo_77 : decode (xb yyM_undo) 77 = .ok (.iconst 1, 1) := by decide +kernel
theorem dM_undo_78 : decode (xb yyM_undo) 78 = .ok (.iadd, 1) := by decide +kernel
theorem dM_undo_79 : decode (xb yyM_undo) 79 = .ok (.iload_n 2, 1) := by decide +kernel
theorem dM_undo_80 : decode (xb yyM_undo) 80 = .ok (.iadd, 1) := by decide +kernel
theorem dM_undo_81 : decode (xb yyM_undo) 81 = .ok (.iaload, 1) := by decide +kernel
theorem dM_undo_82 : decode (xb yyM_undo) 82 = .ok (.iastore, 1) := by decide +kernel
theorem dM_undo_83 : decode (xb yyM_undo) 83 = .ok (.iinc 2 1, 3) := by decide +kernel
theorem dM_undo_86 : decode (xb yyM_undo) 86 = .ok (.goto (-28), 3) := by decide +kernel
theorem dM_undo_89 : decode (xb yyM_undo) 89 = .ok (.aload_n 0, 1) := by decide +kernel
theorem dM_undo_90 : decode (xb yyM_undo) 90 = .ok (.getfield 7, 3) := by decide +kernel
theorem dM_undo_93 : decode (xb yyM_undo) 93 = .ok (.iconst 2, 1) := by decide +kernel
theorem dM_undo_94 : decode (xb yyM_undo) 94 = .ok (.iaload, 1) := by decide +kernel
theorem dM_undo_95 : decode (xb yyM_undo) 95 = .ok (.ireturn, 1) := by decide +kernel
def fM_undo_l58  : Nat → Int32 → Int32 → xM → Option (Int32 × xM)
  | 0, _, _, _ => none
  | n + 1, v1, v2, m => (if (36 : Int32) ≤ v2 then xck 1752 (2 : Int32) (some ((m.1 0 (2 : Int32).toNatClampNeg), m)) else xck 1752 ((v1 + (1 : Int32)) + v2) (xck 1752 ((8 : Int32) + v2) (fM_undo_l58 n v1 (v2 + 1) (xset m 0 ((8 : Int32) + v2).toNatClampNeg (m.1 0 ((v1 + (1 : Int32)) + v2).toNatClampNeg)))))
def fM_undo  (m : xM) : Option (Int32 × xM) := xck 1752 (129 : Int32) ((if (m.1 0 (129 : Int32).toNatClampNeg) = 0 then (fM_no m).bind fun r12 => some (r12.1, r12.2) else xck 1752 (129 : Int32) (xck 1752 (129 : Int32) (xck 1752 (129 : Int32) (xck 1752 ((130 : Int32) + ((37 : Int32) * ((xset m 0 (129 : Int32).toNatClampNeg ((m.1 0 (129 : Int32).toNatClampNeg) - (1 : Int32))).1 0 (129 : Int32).toNatClampNeg))) (xck 1752 (2 : Int32) (fM_undo_l58 xfu ((130 : Int32) + ((37 : Int32) * ((xset m 0 (129 : Int32).toNatClampNeg ((m.1 0 (129 : Int32).toNatClampNeg) - (1 : Int32))).1 0 (129 : Int32).toNatClampNeg))) (0 : Int32) (xset (xset m 0 (129 : Int32).toNatClampNeg ((m.1 0 (129 : Int32).toNatClampNeg) - (1 : Int32))) 0 (2 : Int32).toNatClampNeg ((xset m 0 (129 : Int32).toNatClampNeg ((m.1 0 (129 : Int32).toNatClampNeg) - (1 : Int32))).1 0 ((130 : Int32) + ((37 : Int32) * ((xset m 0 (129 : Int32).toNatClampNeg ((m.1 0 (129 : Int32).toNatClampNeg) - (1 : Int32))).1 0 (129 : Int32).toNatClampNeg))).toNatClampNeg)))))))))
set_option maxRecDepth 100000 in
set_option maxHeartbeats 4000000 in
theorem kM_undo_l58 (G : xG)   (z : xM)    : ∀ (n : Nat) (v1 : Int32) (v2 : Int32) (m : xM), xR G yyM_undo (emim z) 58 [(0, .ref (xa G 85)), (1, .int v1), (2, .int v2)] [] (z, m) (fM_undo_l58  n v1 v2 m) := by
  intro n
  induction n with
  | zero =>
    intro v1 v2 m
    rw [fM_undo_l58]
    exact xR_none
  | succ n ih =>
    intro v1 v2 m
    rw [fM_undo_l58]
    refine xR_iln 58 2 dM_undo_58 rfl rfl ?_
    refine xR_bp 59 (36 : Int32) dM_undo_59 (by decide) ?_
    refine xR_icge 61 89 dM_undo_61 (by decide) ?_ ?_
    · refine xR_aln 89 0 dM_undo_89 rfl rfl ?_
      refine xR_getf 90 xcf7 0 85 (by decide) (by decide) rfl (v := .ref (xa G 86)) rfl fl_RX9_7 dM_undo_90 ?_
      refine xR_ic 93 (2 : Int32) dM_undo_93 (by decide) ?_
      refine xR_iald 94 86 (by decide) rfl dM_undo_94 ?_
      exact xR_iret 95 rfl rfl dM_undo_95
    · refine xR_aln 64 0 dM_undo_64 rfl rfl ?_
      refine xR_getf 65 xcf7 0 85 (by decide) (by decide) rfl (v := .ref (xa G 86)) rfl fl_RX9_7 dM_undo_65 ?_
      refine xR_bp 68 (8 : Int32) dM_undo_68 (by decide) ?_
      refine xR_iln 70 2 dM_undo_70 rfl rfl ?_
      refine xR_iadd 71 dM_undo_71 ?_
      refine xR_aln 72 0 dM_undo_72 rfl rfl ?_
      refine xR_getf 73 xcf7 0 85 (by decide) (by decide) rfl (v := .ref (xa G 86)) rfl fl_RX9_7 dM_undo_73 ?_
      refine xR_iln 76 1 dM_undo_76 rfl rfl ?_
      refine xR_ic 77 (1 : Int32) dM_undo_77 (by decide) ?_
      refine xR_iadd 78 dM_undo_78 ?_
      refine xR_iln 79 2 dM_undo_79 rfl rfl ?_
      refine xR_iadd 80 dM_undo_80 ?_
      refine xR_iald 81 86 (by decide) rfl dM_undo_81 ?_
      refine xR_iast 82 86 (by decide) rfl (z, (xset m 0 ((8 : Int32) + v2).toNatClampNeg (m.1 0 ((v1 + (1 : Int32)) + v2).toNatClampNeg))) xW_m0 dM_undo_82 ?_
      refine xR_iinc 83 2 (v2 + 1) ([(2, .int (v2 + 1)), (0, .ref (xa G 85)), (1, .int v1)]) dM_undo_83 rfl rfl (by decide) rfl ?_
      refine xR_goto 86 58 dM_undo_86 (by decide) ?_
      exact xR_sub [1, 2, 0] rfl (ih v1 (v2 + 1) (xset m 0 ((8 : Int32) + v2).toNatClampNeg (m.1 0 ((v1 + (1 : Int32)) + v2).toNatClampNeg)))
set_option maxRecDepth 100000 in
set_option maxHeartbeats 4000000 in
theorem kM_undo (G : xG)   (z : xM) (m : xM) : ∀ a, fM_undo  m = some a → xCt G yyM_undo [.ref (xa G 85)] (z, m) (some (.int a.1)) (z, a.2) := by
  refine xR_ct (em := (emim z)) rfl (Nat.le_of_ble_eq_true rfl) ?_
  show xR G yyM_undo _ 0 [(0, .ref (xa G 85))] [] _ _
  unfold fM_undo
  refine xR_aln 0 0 dM_undo_0 rfl rfl ?_
  refine xR_getf 1 xcf7 0 85 (by decide) (by decide) rfl (v := .ref (xa G 86)) rfl fl_RX9_7 dM_undo_1 ?_
  refine xR_sp 4 (129 : Int32) dM_undo_4 (by decide) ?_
  refine xR_iald 7 86 (by decide) rfl dM_undo_7 ?_
  refine xR_ifne 8 16 dM_undo_8 (by decide) ?_ ?_
  · refine xR_aln 16 0 dM_undo_16 rfl rfl ?_
    refine xR_getf 17 xcf7 0 85 (by decide) (by decide) rfl (v := .ref (xa G 86)) rfl fl_RX9_7 dM_undo_17 ?_
    refine xR_sp 20 (129 : Int32) dM_undo_20 (by decide) ?_
    refine xR_dup2 23 dM_undo_23 rfl rfl ?_
    refine xR_iald 24 86 (by decide) rfl dM_undo_24 ?_
    refine xR_ic 25 (1 : Int32) dM_undo_25 (by decide) ?_
    refine xR_isub 26 dM_undo_26 ?_
    refine xR_iast 27 86 (by decide) rfl (z, (xset m 0 (129 : Int32).toNatClampNeg ((m.1 0 (129 : Int32).toNatClampNeg) - (1 : Int32)))) xW_m0 dM_undo_27 ?_
    refine xR_sp 28 (130 : Int32) dM_undo_28 (by decide) ?_
    refine xR_bp 31 (37 : Int32) dM_undo_31 (by decide) ?_
    refine xR_aln 33 0 dM_undo_33 rfl rfl ?_
    refine xR_getf 34 xcf7 0 85 (by decide) (by decide) rfl (v := .ref (xa G 86)) rfl fl_RX9_7 dM_undo_34 ?_
    refine xR_sp 37 (129 : Int32) dM_undo_37 (by decide) ?_
    refine xR_iald 40 86 (by decide) rfl dM_undo_40 ?_
    refine xR_imul 41 dM_undo_41 ?_
    refine xR_iadd 42 dM_undo_42 ?_
    refine xR_isn 43 ([(1, .int ((130 : Int32) + ((37 : Int32) * ((xset m 0 (129 : Int32).toNatClampNeg ((m.1 0 (129 : Int32).toNatClampNeg) - (1 : Int32))).1 0 (129 : Int32).toNatClampNeg)))), (0, .ref (xa G 85))]) dM_undo_43 rfl (by decide) rfl ?_
    refine xR_aln 44 1 dM_undo_44 rfl rfl ?_
    refine xR_getf 45 xcf7 0 85 (by decide) (by decide) rfl (v := .ref (xa G 86)) rfl fl_RX9_7 dM_undo_45 ?_
    refine xR_ic 48 (2 : Int32) dM_undo_48 (by decide) ?_
    refine xR_aln 49 1 dM_undo_49 rfl rfl ?_
    refine xR_getf 50 xcf7 0 85 (by decide) (by decide) rfl (v := .ref (xa G 86)) rfl fl_RX9_7 dM_undo_50 ?_
    refine xR_iln 53 0 dM_undo_53 rfl rfl ?_
    refine xR_iald 54 86 (by decide) rfl dM_undo_54 ?_
    refine xR_iast 55 86 (by decide) rfl (z, (xset (xset m 0 (129 : Int32).toNatClampNeg ((m.1 0 (129 : Int32).toNatClampNeg) - (1 : Int32))) 0 (2 : Int32).toNatClampNeg ((xset m 0 (129 : Int32).toNatClampNeg ((m.1 0 (129 : Int32).toNatClampNeg) - (1 : Int32))).1 0 ((130 : Int32) + ((37 : Int32) * ((xset m 0 (129 : Int32).toNatClampNeg ((m.1 0 (129 : Int32).toNatClampNeg) - (1 : Int32))).1 0 (129 : Int32).toNatClampNeg))).toNatClampNeg))) xW_m0 dM_undo_55 ?_
    refine xR_ic 56 (0 : Int32) dM_undo_56 (by decide) ?_
    refine xR_isn 57 ([(2, .int (0 : Int32)), (1, .int ((130 : Int32) + ((37 : Int32) * ((xset m 0 (129 : Int32).toNatClampNeg ((m.1 0 (129 : Int32).toNatClampNeg) - (1 : Int32))).1 0 (129 : Int32).toNatClampNeg)))), (0, .ref (xa G 85))]) dM_undo_57 rfl (by decide) rfl ?_
    exact xR_sub [2, 1, 0] rfl (kM_undo_l58 G z xfu ((130 : Int32) + ((37 : Int32) * ((xset m 0 (129 : Int32).toNatClampNeg ((m.1 0 (129 : Int32).toNatClampNeg) - (1 : Int32))).1 0 (129 : Int32).toNatClampNeg))) (0 : Int32) (xset (xset m 0 (129 : Int32).toNatClampNeg ((m.1 0 (129 : Int32).toNatClampNeg) - (1 : Int32))) 0 (2 : Int32).toNatClampNeg ((xset m 0 (129 : Int32).toNatClampNeg ((m.1 0 (129 : Int32).toNatClampNeg) - (1 : Int32))).1 0 ((130 : Int32) + ((37 : Int32) * ((xset m 0 (129 : Int32).toNatClampNeg ((m.1 0 (129 : Int32).toNatClampNeg) - (1 : Int32))).1 0 (129 : Int32).toNatClampNeg))).toNatClampNeg)))
  · refine xR_aln 11 0 dM_undo_11 rfl rfl ?_
    refine xR_callVim 12 cv_M_no ml_RX9_180 ⟨Nat.le_of_ble_eq_true rfl, Nat.le_of_ble_eq_true rfl⟩ xcf7 rfl 85 (by decide) rfl [] rfl rfl (Nat.le_of_ble_eq_true rfl) dM_undo_12 (kM_no G z m) (fun r12 => ?_)
    exact xR_iret 15 rfl rfl dM_undo_15
theorem dM_ofBoard_0 : decode (xb yyM_ofBoard) 0 = .ok (.aload_n 0, 1) := by decide +kernel
theorem dM_ofBoard_1 : decode (xb yyM_ofBoard) 1 = .ok (.getfield 7, 3) := by decide +kernel
theorem dM_ofBoard_4 : decode (xb yyM_ofBoard) 4 = .ok (.bipush 8, 2) := by decide +kernel
theorem dM_ofBoard_6 : decode (xb yyM_ofBoard) 6 = .ok (.bipush 6, 2) := by decide +kernel
theorem dM_ofBoard_8 : decode (xb yyM_ofBoard) 8 = .ok (.iload_n 2, 1) := by decide +kernel
theorem dM_ofBoard_9 : decode (xb yyM_ofBoard) 9 = .ok (.imul, 1) := by decide +kernel
theorem dM_ofBoard_10 : decode (xb yyM_ofBoard) 10 = .ok (.iadd, 1) := by decide +kernel
theorem dM_ofBoard_11 : decode (xb yyM_ofBoard) 11 = .ok (.iload_n 1, 1) := by decide +kernel
theorem dM_ofBoard_12 : decode (xb yyM_ofBoard) 12 = .ok (.iadd, 1) := by decide +kernel
theorem dM_ofBoard_13 : decode (xb yyM_ofBoard) 13 = .ok (.iaload, 1) := by decide +kernel
theorem dM_ofBoard_14 : decode (xb yyM_ofBoard) 14 = .ok (.ireturn, 1) := by decide +kernel
def fM_ofBoard  (m : xM) (v1 : Int32) (v2 : Int32) : Option (Int32) := xck 1752 (((8 : Int32) + ((6 : Int32) * v2)) + v1) (some (m.1 0 (((8 : Int32) + ((6 : Int32) * v2)) + v1).toNatClampNeg))
set_option maxRecDepth 100000 in
set_option maxHeartbeats 4000000 in
theorem kM_ofBoard (G : xG)   (z : xM) (m : xM) (v1 : Int32) (v2 : Int32) : ∀ a, fM_ofBoard m v1 v2 = some a → xCt G yyM_ofBoard [.ref (xa G 85), .int v1, .int v2] (z, m) (some (.int a)) (z, m) := by
  refine xR_ct (em := (emi (z, m))) rfl (Nat.le_of_ble_eq_true rfl) ?_
  show xR G yyM_ofBoard _ 0 [(0, .ref (xa G 85)), (1, .int v1), (2, .int v2)] [] _ _
  unfold fM_ofBoard
  refine xR_aln 0 0 dM_ofBoard_0 rfl rfl ?_
  refine xR_getf 1 xcf7 0 85 (by decide) (by decide) rfl (v := .ref (xa G 86)) rfl fl_RX9_7 dM_ofBoard_1 ?_
  refine xR_bp 4 (8 : Int32) dM_ofBoard_4 (by decide) ?_
  refine xR_bp 6 (6 : Int32) dM_ofBoard_6 (by decide) ?_
  refine xR_iln 8 2 dM_ofBoard_8 rfl rfl ?_
  refine xR_imul 9 dM_ofBoard_9 ?_
  refine xR_iadd 10 dM_ofBoard_10 ?_
  refine xR_iln 11 1 dM_ofBoard_11 rfl rfl ?_
  refine xR_iadd 12 dM_ofBoard_12 ?_
  refine xR_iald 13 86 (by decide) rfl dM_ofBoard_13 ?_
  exact xR_iret 14 rfl rfl dM_ofBoard_14
theorem dM_of_0 : decode (xb yyM_of) 0 = .ok (.aload_n 0, 1) := by decide +kernel
theorem dM_of_1 : decode (xb yyM_of) 1 = .ok (.iload_n 1, 1) := by decide +kernel
theorem dM_of_2 : decode (xb yyM_of) 2 = .ok (.invokevirtual 84, 3) := by decide +kernel
theorem dM_of_5 : decode (xb yyM_of) 5 = .ok (.ifCond .eq 24, 3) := by decide +kernel
theorem dM_of_8 : decode (xb yyM_of) 8 = .ok (.iload_n 2, 1) := by decide +kernel
theorem dM_of_9 : decode (xb yyM_of) 9 = .ok (.i2l, 1) := by decide +kernel
theorem dM_of_10 : decode (xb yyM_of) 10 = .ok (.lconst 0, 1) := by decide +kernel
theorem dM_of_11 : decode (xb yyM_of) 11 = .ok (.ldc2_w 70, 3) := by decide +kernel
theorem dM_of_14 : decode (xb yyM_of) 14 = .ok (.invokestatic 40, 3) := by decide +kernel
theorem dM_of_17 : decode (xb yyM_of) 17 = .ok (.ifCond .eq 12, 3) := by decide +kernel
theorem dM_of_20 : decode (xb yyM_of) 20 = .ok (.aload_n 0, 1) := by decide +kernel
theorem dM_of_21 : decode (xb yyM_of) 21 = .ok (.iload_n 1, 1) := by decide +kernel
theorem dM_of_22 : decode (xb yyM_of) 22 = .ok (.iload_n 2, 1) := by decide +kernel
theorem dM_of_23 : decode (xb yyM_of) 23 = .ok (.invokevirtual 186, 3) := by decide +kernel
theorem dM_of_26 : decode (xb yyM_of) 26 = .ok (.goto 9, 3) := by decide +kernel
theorem dM_of_29 : decode (xb yyM_of) 29 = .ok (.aload_n 0, 1) := by decide +kernel
theorem dM_of_30 : decode (xb yyM_of) 30 = .ok (.bipush (-2), 2) := by decide +kernel
theorem dM_of_32 : decode (xb yyM_of) 32 = .ok (.invokevirtual 66, 3) := by decide +kernel
theorem dM_of_35 : decode (xb yyM_of) 35 = .ok (.ireturn, 1) := by decide +kernel
def fM_of  (v1 : Int32) (v2 : Int32) (m : xM) : Option (Int32 × xM) := (fM_isBoard m v1).bind fun r2 => (if r2 = 0 then (fM_bad (-2 : Int32) m).bind fun r32 => some (r32.1, r32.2) else (fM_in ((v2).toInt64) (0 : Int64) (5 : Int64)).bind fun r14 => (if r14 = 0 then (fM_bad (-2 : Int32) m).bind fun r32 => some (r32.1, r32.2) else (fM_ofBoard m v1 v2).bind fun r23 => some (r23, m)))
set_option maxRecDepth 100000 in
set_option maxHeartbeats 4000000 in
theorem kM_of (G : xG)   (z : xM) (m : xM) (v1 : Int32) (v2 : Int32) : ∀ a, fM_of  v1 v2 m = some a → xCt G yyM_of [.ref (xa G 85), .int v1, .int v2] (z, m) (some (.int a.1)) (z, a.2) := by
  refine xR_ct (em := (emim z)) rfl (Nat.le_of_ble_eq_true rfl) ?_
  show xR G yyM_of _ 0 [(0, .ref (xa G 85)), (1, .int v1), (2, .int v2)] [] _ _
  unfold fM_of
  refine xR_aln 0 0 dM_of_0 rfl rfl ?_
  refine xR_iln 1 1 dM_of_1 rfl rfl ?_
  refine xR_callVi 2 cv_M_isBoard ml_RX9_84 ⟨Nat.le_of_ble_eq_true rfl, Nat.le_of_ble_eq_true rfl⟩ xcf7 rfl 85 (by decide) rfl [.int v1] rfl rfl (Nat.le_of_ble_eq_true rfl) dM_of_2 (kM_isBoard G z m v1) (fun r2 => ?_)
  refine xR_ifeq 5 29 dM_of_5 (by decide) ?_ ?_
  · refine xR_aln 29 0 dM_of_29 rfl rfl ?_
    refine xR_bp 30 (-2 : Int32) dM_of_30 (by decide) ?_
    refine xR_callVim 32 cv_M_bad ml_RX9_66 ⟨Nat.le_of_ble_eq_true rfl, Nat.le_of_ble_eq_true rfl⟩ xcf7 rfl 85 (by decide) rfl [.int (-2 : Int32)] rfl rfl (Nat.le_of_ble_eq_true rfl) dM_of_32 (kM_bad G z m (-2 : Int32)) (fun r32 => ?_)
    exact xR_iret 35 rfl rfl dM_of_35
  · refine xR_iln 8 2 dM_of_8 rfl rfl ?_
    refine xR_i2l 9 dM_of_9 ?_
    refine xR_lc 10 (0 : Int64) dM_of_10 (by decide) ?_
    refine xR_ldc2 11 cl_RX9_70 dM_of_11 ?_
    refine xR_callSi 14 cs_M_in ml_RX9_40 ⟨Nat.le_of_ble_eq_true rfl, Nat.le_of_ble_eq_true rfl⟩ [.long ((v2).toInt64), .long (0 : Int64), .long (5 : Int64)] rfl rfl (Nat.le_of_ble_eq_true rfl) dM_of_14 (kM_in G (z, m) ((v2).toInt64) (0 : Int64) (5 : Int64)) (fun r14 => ?_)
    refine xR_ifeq 17 29 dM_of_17 (by decide) ?_ ?_
    · refine xR_aln 29 0 dM_of_29 rfl rfl ?_
      refine xR_bp 30 (-2 : Int32) dM_of_30 (by decide) ?_
      refine xR_callVim 32 cv_M_bad ml_RX9_66 ⟨Nat.le_of_ble_eq_true rfl, Nat.le_of_ble_eq_true rfl⟩ xcf7 rfl 85 (by decide) rfl [.int (-2 : Int32)] rfl rfl (Nat.le_of_ble_eq_true rfl) dM_of_32 (kM_bad G z m (-2 : Int32)) (fun r32 => ?_)
      exact xR_iret 35 rfl rfl dM_of_35
    · refine xR_aln 20 0 dM_of_20 rfl rfl ?_
      refine xR_iln 21 1 dM_of_21 rfl rfl ?_
      refine xR_iln 22 2 dM_of_22 rfl rfl ?_
      refine xR_callVi 23 cv_M_ofBoard ml_RX9_186 ⟨Nat.le_of_ble_eq_true rfl, Nat.le_of_ble_eq_true rfl⟩ xcf7 rfl 85 (by decide) rfl [.int v1, .int v2] rfl rfl (Nat.le_of_ble_eq_true rfl) dM_of_23 (kM_ofBoard G z m v1 v2) (fun r23 => ?_)
      refine xR_goto 26 35 dM_of_26 (by decide) ?_
      exact xR_iret 35 rfl rfl dM_of_35
theorem dM_housesOf_0 : decode (xb yyM_housesOf) 0 = .ok (.iconst 0, 1) := by decide +kernel
theorem dM_housesOf_1 : decode (xb yyM_housesOf) 1 = .ok (.istore_n 3, 1) := by decide +kernel
theorem dM_housesOf_2 : decode (xb yyM_housesOf) 2 = .ok (.iconst 0, 1) := by decide +kernel
theorem dM_housesOf_3 : decode (xb yyM_housesOf) 3 = .ok (.istore 4, 2) := by decide +kernel
theorem dM_housesOf_5 : decode (xb yyM_housesOf) 5 = .ok (.iload 4, 2) := by decide +kernel
theorem dM_housesOf_7 : decode (xb yyM_housesOf) 7 = .ok (.aload_n 0, 1) := by decide +kernel
theorem dM_housesOf_8 : decode (xb yyM_housesOf) 8 = .ok (.getfield 7, 3) := by decide +kernel
theorem dM_housesOf_11 : decode (xb yyM_housesOf) 11 = .ok (.iload_n 1, 1) := by decide +kernel
theorem dM_housesOf_12 : decode (xb yyM_housesOf) 12 = .ok (.iconst 0, 1) := by decide +kernel
theorem dM_housesOf_13 : decode (xb yyM_housesOf) 13 = .ok (.iadd, 1) := by decide +kernel
theorem dM_housesOf_14 : decode (xb yyM_housesOf) 14 = .ok (.iaload, 1) := by decide +kernel
theorem dM_housesOf_15 : decode (xb yyM_housesOf) 15 = .ok (.if_icmp .ge 46, 3) := by decide +kernel
theorem dM_housesOf_18 : decode (xb yyM_housesOf) 18 = .ok (.iload_n 3, 1) := by decide +kernel
theorem dM_housesOf_19 : decode (xb yyM_housesOf) 19 = .ok (.aload_n 0, 1) := by decide +kernel
theorem dM_housesOf_20 : decode (xb yyM_housesOf) 20 = .ok (.getfield 7, 3) := by decide +kernel
theorem dM_housesOf_23 : decode (xb yyM_housesOf) 23 = .ok (.iload_n 1, 1) := by decide +kernel
theorem dM_housesOf_24 : decode (xb yyM_housesOf) 24 = .ok (.bipush 38, 2) := by decide +kernel
theorem dM_housesOf_26 : decode (xb yyM_housesOf) 26 = .ok (.iadd, 1) := by decide +kernel
theorem dM_housesOf_27 : decode (xb yyM_housesOf) 27 = .ok (.iload 4, 2) := by decide +kernel
theorem dM_housesOf_29 : decode (xb yyM_housesOf) 29 = .ok (.iadd, 1) := by decide +kernel
theorem dM_housesOf_30 : decode (xb yyM_housesOf) 30 = .ok (.iaload, 1) := by decide +kernel
theorem dM_housesOf_31 : decode (xb yyM_housesOf) 31 = .ok (.iload_n 2, 1) := by decide +kernel
theorem dM_housesOf_32 : decode (xb yyM_housesOf) 32 = .ok (.if_icmp .ne 20, 3) := by decide +kernel
theorem dM_housesOf_35 : decode (xb yyM_housesOf) 35 = .ok (.iconst 1, 1) := by decide +kernel
theorem dM_housesOf_36 : decode (xb yyM_housesOf) 36 = .ok (.aload_n 0, 1) := by decide +kernel
theorem dM_housesOf_37 : decode (xb yyM_housesOf) 37 = .ok (.getfield 7, 3) := by decide +kernel
theorem dM_housesOf_40 : decode (xb yyM_housesOf) 40 = .ok (.iload_n 1, 1) := by decide +kernel
theorem dM_housesOf_41 : decode (xb yyM_housesOf) 41 = .ok (.bipush 26, 2) := by decide +kernel
theorem dM_housesOf_43 : decode (xb yyM_housesOf) 43 = .ok (.iadd, 1) := by decide +kernel
theorem dM_housesOf_44 : decode (xb yyM_housesOf) 44 = .ok (.iload 4, 2) := by decide +kernel
theorem dM_housesOf_46 : decode (xb yyM_housesOf) 46 = .ok (.iadd, 1) := by decide +kernel
theorem dM_housesOf_47 : decode (xb yyM_housesOf) 47 = .ok (.iaload, 1) := by decide +kernel
theorem dM_housesOf_48 : decode (xb yyM_housesOf) 48 = .ok (.ishl, 1) := by decide +kernel
theorem dM_housesOf_49 : decode (xb yyM_housesOf) 49 = .ok (.goto 4, 3) := by decide +kernel
theorem dM_housesOf_52 : decode (xb yyM_housesOf) 52 = .ok (.iconst 0, 1) := by decide +kernel
theorem dM_housesOf_53 : decode (xb yyM_housesOf) 53 = .ok (.ior, 1) := by decide +kernel
theorem dM_housesOf_54 : decode (xb yyM_housesOf) 54 = .ok (.istore_n 3, 1) := by decide +kernel
theorem dM_housesOf_55 : decode (xb yyM_housesOf) 55 = .ok (.iinc 4 1, 3) := by decide +kernel
theorem dM_housesOf_58 : decode (xb yyM_housesOf) 58 = .ok (.goto (-53), 3) := by decide +kernel
theorem dM_housesOf_61 : decode (xb yyM_housesOf) 61 = .ok (.iload_n 3, 1) := by decide +kernel
theorem dM_housesOf_62 : decode (xb yyM_housesOf) 62 = .ok (.invokestatic 189, 3) := by decide +kernel
theorem dM_housesOf_65 : decode (xb yyM_housesOf) 65 = .ok (.ireturn, 1) := by decide +kernel
def fM_housesOf_b53  (m : xM) (k5 : Int32 → Int32 → Int32 → Int32 → Option (Int32)) (v1 : Int32) (v2 : Int32) (v4 : Int32) (s0 : Int32) (s1 : Int32) : Option (Int32) := k5 v1 v2 (s1 ||| s0) (v4 + 1)
def fM_housesOf_l5  (m : xM) : Nat → Int32 → Int32 → Int32 → Int32 → Option (Int32)
  | 0, _, _, _, _ => none
  | n + 1, v1, v2, v3, v4 => xck 1752 (v1 + (0 : Int32)) ((if (m.1 0 (v1 + (0 : Int32)).toNatClampNeg) ≤ v4 then (fM_ones v3).bind fun r62 => some r62 else xck 1752 ((v1 + (38 : Int32)) + v4) ((if (m.1 0 ((v1 + (38 : Int32)) + v4).toNatClampNeg) = v2 then xck 1752 ((v1 + (26 : Int32)) + v4) (fM_housesOf_b53 m (fM_housesOf_l5 m n) v1 v2 v4 ((1 : Int32) <<< ((m.1 0 ((v1 + (26 : Int32)) + v4).toNatClampNeg) &&& 31)) v3) else fM_housesOf_b53 m (fM_housesOf_l5 m n) v1 v2 v4 (0 : Int32) v3))))
def fM_housesOf  (m : xM) (v1 : Int32) (v2 : Int32) : Option (Int32) := fM_housesOf_l5 m xfu v1 v2 (0 : Int32) (0 : Int32)
set_option maxRecDepth 100000 in
set_option maxHeartbeats 4000000 in
theorem kM_housesOf_b53 (G : xG)   (z : xM) (m : xM) (k5 : Int32 → Int32 → Int32 → Int32 → Option (Int32)) (hk5 : ∀ (v1 : Int32) (v2 : Int32) (v3 : Int32) (v4 : Int32), xR G yyM_housesOf (emi (z, m)) 5 [(0, .ref (xa G 85)), (1, .int v1), (2, .int v2), (3, .int v3), (4, .int v4)] [] (z, m) (k5 v1 v2 v3 v4)) (v1 : Int32) (v2 : Int32) (v4 : Int32) (s0 : Int32) (s1 : Int32) : xR G yyM_housesOf (emi (z, m)) 53 [(0, .ref (xa G 85)), (1, .int v1), (2, .int v2), (4, .int v4)] [.int s0, .int s1] (z, m) (fM_housesOf_b53 m k5 v1 v2 v4 s0 s1) := by
  unfold fM_housesOf_b53
  refine xR_ior 53 dM_housesOf_53 ?_
  refine xR_isn 54 ([(3, .int (s1 ||| s0)), (0, .ref (xa G 85)), (1, .int v1), (2, .int v2), (4, .int v4)]) dM_housesOf_54 rfl (by decide) rfl ?_
  refine xR_iinc 55 4 (v4 + 1) ([(4, .int (v4 + 1)), (3, .int (s1 ||| s0)), (0, .ref (xa G 85)), (1, .int v1), (2, .int v2)]) dM_housesOf_55 rfl rfl (by decide) rfl ?_
  refine xR_goto 58 5 dM_housesOf_58 (by decide) ?_
  exact xR_sub [2, 3, 4, 1, 0] rfl (hk5 v1 v2 (s1 ||| s0) (v4 + 1))
set_option maxRecDepth 100000 in
set_option maxHeartbeats 4000000 in
theorem kM_housesOf_l5 (G : xG)   (z : xM) (m : xM)   : ∀ (n : Nat) (v1 : Int32) (v2 : Int32) (v3 : Int32) (v4 : Int32), xR G yyM_housesOf (emi (z, m)) 5 [(0, .ref (xa G 85)), (1, .int v1), (2, .int v2), (3, .int v3), (4, .int v4)] [] (z, m) (fM_housesOf_l5 m n v1 v2 v3 v4) := by
  intro n
  induction n with
  | zero =>
    intro v1 v2 v3 v4
    rw [fM_housesOf_l5]
    exact xR_none
  | succ n ih =>
    intro v1 v2 v3 v4
    rw [fM_housesOf_l5]
    refine xR_il 5 4 dM_housesOf_5 rfl ?_
    refine xR_aln 7 0 dM_housesOf_7 rfl rfl ?_
    refine xR_getf 8 xcf7 0 85 (by decide) (by decide) rfl (v := .ref (xa G 86)) rfl fl_RX9_7 dM_housesOf_8 ?_
    refine xR_iln 11 1 dM_housesOf_11 rfl rfl ?_
    refine xR_ic 12 (0 : Int32) dM_housesOf_12 (by decide) ?_
    refine xR_iadd 13 dM_housesOf_13 ?_
    refine xR_iald 14 86 (by decide) rfl dM_housesOf_14 ?_
    refine xR_icge 15 61 dM_housesOf_15 (by decide) ?_ ?_
    · refine xR_iln 61 3 dM_housesOf_61 rfl rfl ?_
      refine xR_callSi 62 cs_M_ones ml_RX9_189 ⟨Nat.le_of_ble_eq_true rfl, Nat.le_of_ble_eq_true rfl⟩ [.int v3] rfl rfl (Nat.le_of_ble_eq_true rfl) dM_housesOf_62 (kM_ones G (z, m) v3) (fun r62 => ?_)
      exact xR_iret 65 rfl rfl dM_housesOf_65
    · refine xR_iln 18 3 dM_housesOf_18 rfl rfl ?_
      refine xR_aln 19 0 dM_housesOf_19 rfl rfl ?_
      refine xR_getf 20 xcf7 0 85 (by decide) (by decide) rfl (v := .ref (xa G 86)) rfl fl_RX9_7 dM_housesOf_20 ?_
      refine xR_iln 23 1 dM_housesOf_23 rfl rfl ?_
      refine xR_bp 24 (38 : Int32) dM_housesOf_24 (by decide) ?_
      refine xR_iadd 26 dM_housesOf_26 ?_
      refine xR_il 27 4 dM_housesOf_27 rfl ?_
      refine xR_iadd 29 dM_housesOf_29 ?_
      refine xR_iald 30 86 (by decide) rfl dM_housesOf_30 ?_
      refine xR_iln 31 2 dM_housesOf_31 rfl rfl ?_
      refine xR_icne 32 52 dM_housesOf_32 (by decide) ?_ ?_
      · refine xR_ic 52 (0 : Int32) dM_housesOf_52 (by decide) ?_
        exact xR_sub [0, 1, 2, 4] rfl (kM_housesOf_b53 G z m (fM_housesOf_l5 m n) ih v1 v2 v4 (0 : Int32) v3)
      · refine xR_ic 35 (1 : Int32) dM_housesOf_35 (by decide) ?_
        refine xR_aln 36 0 dM_housesOf_36 rfl rfl ?_
        refine xR_getf 37 xcf7 0 85 (by decide) (by decide) rfl (v := .ref (xa G 86)) rfl fl_RX9_7 dM_housesOf_37 ?_
        refine xR_iln 40 1 dM_housesOf_40 rfl rfl ?_
        refine xR_bp 41 (26 : Int32) dM_housesOf_41 (by decide) ?_
        refine xR_iadd 43 dM_housesOf_43 ?_
        refine xR_il 44 4 dM_housesOf_44 rfl ?_
        refine xR_iadd 46 dM_housesOf_46 ?_
        refine xR_iald 47 86 (by decide) rfl dM_housesOf_47 ?_
        refine xR_ishl 48 dM_housesOf_48 ?_
        refine xR_goto 49 53 dM_housesOf_49 (by decide) ?_
        exact xR_sub [0, 1, 2, 4] rfl (kM_housesOf_b53 G z m (fM_housesOf_l5 m n) ih v1 v2 v4 ((1 : Int32) <<< ((m.1 0 ((v1 + (26 : Int32)) + v4).toNatClampNeg) &&& 31)) v3)
set_option maxRecDepth 100000 in
set_option maxHeartbeats 4000000 in
theorem kM_housesOf (G : xG)   (z : xM) (m : xM) (v1 : Int32) (v2 : Int32) : ∀ a, fM_housesOf m v1 v2 = some a → xCt G yyM_housesOf [.ref (xa G 85), .int v1, .int v2] (z, m) (some (.int a)) (z, m) := by
  refine xR_ct (em := (emi (z, m))) rfl (Nat.le_of_ble_eq_true rfl) ?_
  show xR G yyM_housesOf _ 0 [(0, .ref (xa G 85)), (1, .int v1), (2, .int v2)] [] _ _
  unfold fM_housesOf
  refine xR_ic 0 (0 : Int32) dM_housesOf_0 (by decide) ?_
  refine xR_isn 1 ([(3, .int (0 : Int32)), (0, .ref (xa G 85)), (1, .int v1), (2, .int v2)]) dM_housesOf_1 rfl (by decide) rfl ?_
  refine xR_ic 2 (0 : Int32) dM_housesOf_2 (by decide) ?_
  refine xR_is 3 ([(4, .int (0 : Int32)), (3, .int (0 : Int32)), (0, .ref (xa G 85)), (1, .int v1), (2, .int v2)]) dM_housesOf_3 (by decide) rfl ?_
  exact xR_sub [2, 3, 4, 1, 0] rfl (kM_housesOf_l5 G z m xfu v1 v2 (0 : Int32) (0 : Int32))
theorem dM_about_0 : decode (xb yyM_about) 0 = .ok (.aload_n 0, 1) := by decide +kernel
theorem dM_about_1 : decode (xb yyM_about) 1 = .ok (.iload_n 1, 1) := by decide +kernel
theorem dM_about_2 : decode (xb yyM_about) 2 = .ok (.invokevirtual 177, 3) := by decide +kernel
theorem dM_about_5 : decode (xb yyM_about) 5 = .ok (.ifCond .eq 15, 3) := by decide +kernel
theorem dM_about_8 : decode (xb yyM_about) 8 = .ok (.iload_n 2, 1) := by decide +kernel
theorem dM_about_9 : decode (xb yyM_about) 9 = .ok (.i2l, 1) := by decide +kernel
theorem dM_about_10 : decode (xb yyM_about) 10 = .ok (.lconst 0, 1) := by decide +kernel
theorem dM_about_11 : decode (xb yyM_about) 11 = .ok (.ldc2_w 121, 3) := by decide +kernel
theorem dM_about_14 : decode (xb yyM_about) 14 = .ok (.invokestatic 40, 3) := by decide +kernel
theorem dM_about_17 : decode (xb yyM_about) 17 = .ok (.ifCond .ne 10, 3) := by decide +kernel
theorem dM_about_20 : decode (xb yyM_about) 20 = .ok (.aload_n 0, 1) := by decide +kernel
theorem dM_about_21 : decode (xb yyM_about) 21 = .ok (.bipush (-2), 2) := by decide +kernel
theorem dM_about_23 : decode (xb yyM_about) 23 = .ok (.invokevirtual 66, 3) := by decide +kernel
theorem dM_about_26 : decode (xb yyM_about) 26 = .ok (.ireturn, 1) := by decide +kernel
theorem dM_about_27 : decode (xb yyM_about) 27 = .ok (.iload_n 2, 1) := by decide +kernel
theorem dM_about_28 : decode (xb yyM_about) 28 = .ok (.ifCond .ne 15, 3) := by decide +kernel
theorem dM_about_31 : decode (xb yyM_about) 31 = .ok (.aload_n 0, 1) := by decide +kernel
theorem dM_about_32 : decode (xb yyM_about) 32 = .ok (.getfield 7, 3) := by decide +kernel
theorem dM_about_35 : decode (xb yyM_about) 35 = .ok (.bipush 44, 2) := by decide +kernel
theorem dM_about_37 : decode (xb yyM_about) 37 = .ok (.iload_n 1, 1) := by decide +kernel
theorem dM_about_38 : decode (xb yyM_about) 38 = .ok (.iadd, 1) := by decide +kernel
theorem dM_about_39 : decode (xb yyM_about) 39 = .ok (.iaload, 1) := by decide +kernel
theorem dM_about_40 : decode (xb yyM_about) 40 = .ok (.goto 23, 3) := by decide +kernel
theorem dM_about_43 : decode (xb yyM_about) 43 = .ok (.iload_n 2, 1) := by decide +kernel
theorem dM_about_44 : decode (xb yyM_about) 44 = .ok (.iconst 1, 1) := by decide +kernel
theorem dM_about_45 : decode (xb yyM_about) 45 = .ok (.if_icmp .ne 12, 3) := by decide +kernel
theorem dM_about_48 : decode (xb yyM_about) 48 = .ok (.aload_n 0, 1) := by decide +kernel
theorem dM_about_49 : decode (xb yyM_about) 49 = .ok (.iconst 0, 1) := by decide +kernel
theorem dM_about_50 : decode (xb yyM_about) 50 = .ok (.iload_n 1, 1) := by decide +kernel
theorem dM_about_51 : decode (xb yyM_about) 51 = .ok (.invokevirtual 127, 3) := by decide +kernel
theorem dM_about_54 : decode (xb yyM_about) 54 = .ok (.goto 9, 3) := by decide +kernel
theorem dM_about_57 : decode (xb yyM_about) 57 = .ok (.aload_n 0, 1) := by decide +kernel
theorem dM_about_58 : decode (xb yyM_about) 58 = .ok (.iconst 0, 1) := by decide +kernel
theorem dM_about_59 : decode (xb yyM_about) 59 = .ok (.iload_n 1, 1) := by decide +kernel
theorem dM_about_60 : decode (xb yyM_about) 60 = .ok (.invokevirtual 192, 3) := by decide +kernel
theorem dM_about_63 : decode (xb yyM_about) 63 = .ok (.ireturn, 1) := by decide +kernel
def fM_about  (v1 : Int32) (v2 : Int32) (m : xM) : Option (Int32 × xM) := (fM_isInstrument m v1).bind fun r2 => (if r2 = 0 then (fM_bad (-2 : Int32) m).bind fun r23 => some (r23.1, r23.2) else (fM_in ((v2).toInt64) (0 : Int64) (2 : Int64)).bind fun r14 => (if r14 = 0 then (fM_bad (-2 : Int32) m).bind fun r23 => some (r23.1, r23.2) else (if v2 = 0 then xck 1752 ((44 : Int32) + v1) (some ((m.1 0 ((44 : Int32) + v1).toNatClampNeg), m)) else (if v2 = (1 : Int32) then (fM_boardsOf m (0 : Int32) v1).bind fun r51 => some (r51, m) else (fM_housesOf m (0 : Int32) v1).bind fun r60 => some (r60, m)))))
set_option maxRecDepth 100000 in
set_option maxHeartbeats 4000000 in
theorem kM_about (G : xG)   (z : xM) (m : xM) (v1 : Int32) (v2 : Int32) : ∀ a, fM_about  v1 v2 m = some a → xCt G yyM_about [.ref (xa G 85), .int v1, .int v2] (z, m) (some (.int a.1)) (z, a.2) := by
  refine xR_ct (em := (emim z)) rfl (Nat.le_of_ble_eq_true rfl) ?_
  show xR G yyM_about _ 0 [(0, .ref (xa G 85)), (1, .int v1), (2, .int v2)] [] _ _
  unfold fM_about
  refine xR_aln 0 0 dM_about_0 rfl rfl ?_
  refine xR_iln 1 1 dM_about_1 rfl rfl ?_
  refine xR_callVi 2 cv_M_isInstrument ml_RX9_177 ⟨Nat.le_of_ble_eq_true rfl, Nat.le_of_ble_eq_true rfl⟩ xcf7 rfl 85 (by decide) rfl [.int v1] rfl rfl (Nat.le_of_ble_eq_true rfl) dM_about_2 (kM_isInstrument G z m v1) (fun r2 => ?_)
  refine xR_ifeq 5 20 dM_about_5 (by decide) ?_ ?_
  · refine xR_aln 20 0 dM_about_20 rfl rfl ?_
    refine xR_bp 21 (-2 : Int32) dM_about_21 (by decide) ?_
    refine xR_callVim 23 cv_M_bad ml_RX9_66 ⟨Nat.le_of_ble_eq_true rfl, Nat.le_of_ble_eq_true rfl⟩ xcf7 rfl 85 (by decide) rfl [.int (-2 : Int32)] rfl rfl (Nat.le_of_ble_eq_true rfl) dM_about_23 (kM_bad G z m (-2 : Int32)) (fun r23 => ?_)
    exact xR_iret 26 rfl rfl dM_about_26
  · refine xR_iln 8 2 dM_about_8 rfl rfl ?_
    refine xR_i2l 9 dM_about_9 ?_
    refine xR_lc 10 (0 : Int64) dM_about_10 (by decide) ?_
    refine xR_ldc2 11 cl_RX9_121 dM_about_11 ?_
    refine xR_callSi 14 cs_M_in ml_RX9_40 ⟨Nat.le_of_ble_eq_true rfl, Nat.le_of_ble_eq_true rfl⟩ [.long ((v2).toInt64), .long (0 : Int64), .long (2 : Int64)] rfl rfl (Nat.le_of_ble_eq_true rfl) dM_about_14 (kM_in G (z, m) ((v2).toInt64) (0 : Int64) (2 : Int64)) (fun r14 => ?_)
    refine xR_ifne 17 27 dM_about_17 (by decide) ?_ ?_
    · refine xR_iln 27 2 dM_about_27 rfl rfl ?_
      refine xR_ifne 28 43 dM_about_28 (by decide) ?_ ?_
      · refine xR_iln 43 2 dM_about_43 rfl rfl ?_
        refine xR_ic 44 (1 : Int32) dM_about_44 (by decide) ?_
        refine xR_icne 45 57 dM_about_45 (by decide) ?_ ?_
        · refine xR_aln 57 0 dM_about_57 rfl rfl ?_
          refine xR_ic 58 (0 : Int32) dM_about_58 (by decide) ?_
          refine xR_iln 59 1 dM_about_59 rfl rfl ?_
          refine xR_callVi 60 cv_M_housesOf ml_RX9_192 ⟨Nat.le_of_ble_eq_true rfl, Nat.le_of_ble_eq_true rfl⟩ xcf7 rfl 85 (by decide) rfl [.int (0 : Int32), .int v1] rfl rfl (Nat.le_of_ble_eq_true rfl) dM_about_60 (kM_housesOf G z m (0 : Int32) v1) (fun r60 => ?_)
          exact xR_iret 63 rfl rfl dM_about_63
        · refine xR_aln 48 0 dM_about_48 rfl rfl ?_
          refine xR_ic 49 (0 : Int32) dM_about_49 (by decide) ?_
          refine xR_iln 50 1 dM_about_50 rfl rfl ?_
          refine xR_callVi 51 cv_M_boardsOf ml_RX9_127 ⟨Nat.le_of_ble_eq_true rfl, Nat.le_of_ble_eq_true rfl⟩ xcf7 rfl 85 (by decide) rfl [.int (0 : Int32), .int v1] rfl rfl (Nat.le_of_ble_eq_true rfl) dM_about_51 (kM_boardsOf G z m (0 : Int32) v1) (fun r51 => ?_)
          refine xR_goto 54 63 dM_about_54 (by decide) ?_
          exact xR_iret 63 rfl rfl dM_about_63
      · refine xR_aln 31 0 dM_about_31 rfl rfl ?_
        refine xR_getf 32 xcf7 0 85 (by decide) (by decide) rfl (v := .ref (xa G 86)) rfl fl_RX9_7 dM_about_32 ?_
        refine xR_bp 35 (44 : Int32) dM_about_35 (by decide) ?_
        refine xR_iln 37 1 dM_about_37 rfl rfl ?_
        refine xR_iadd 38 dM_about_38 ?_
        refine xR_iald 39 86 (by decide) rfl dM_about_39 ?_
        refine xR_goto 40 63 dM_about_40 (by decide) ?_
        exact xR_iret 63 rfl rfl dM_about_63
    · refine xR_aln 20 0 dM_about_20 rfl rfl ?_
      refine xR_bp 21 (-2 : Int32) dM_about_21 (by decide) ?_
      refine xR_callVim 23 cv_M_bad ml_RX9_66 ⟨Nat.le_of_ble_eq_true rfl, Nat.le_of_ble_eq_true rfl⟩ xcf7 rfl 85 (by decide) rfl [.int (-2 : Int32)] rfl rfl (Nat.le_of_ble_eq_true rfl) dM_about_23 (kM_bad G z m (-2 : Int32)) (fun r23 => ?_)
      exact xR_iret 26 rfl rfl dM_about_26
theorem dM_soundsIn_0 : decode (xb yyM_soundsIn) 0 = .ok (.aload_n 0, 1) := by decide +kernel
theorem dM_soundsIn_1 : decode (xb yyM_soundsIn) 1 = .ok (.getfield 7, 3) := by decide +kernel
theorem dM_soundsIn_4 : decode (xb yyM_soundsIn) 4 = .ok (.iload_n 1, 1) := by decide +kernel
theorem dM_soundsIn_5 : decode (xb yyM_soundsIn) 5 = .ok (.bipush 8, 2) := by decide +kernel
theorem dM_soundsIn_7 : decode (xb yyM_soundsIn) 7 = .ok (.iadd, 1) := by decide +kernel
theorem dM_soundsIn_8 : decode (xb yyM_soundsIn) 8 = .ok (.iload_n 2, 1) := by decide +kernel
theorem dM_soundsIn_9 : decode (xb yyM_soundsIn) 9 = .ok (.iadd, 1) := by decide +kernel
theorem dM_soundsIn_10 : decode (xb yyM_soundsIn) 10 = .ok (.iaload, 1) := by decide +kernel
theorem dM_soundsIn_11 : decode (xb yyM_soundsIn) 11 = .ok (.iload_n 3, 1) := by decide +kernel
theorem dM_soundsIn_12 : decode (xb yyM_soundsIn) 12 = .ok (.aload_n 0, 1) := by decide +kernel
theorem dM_soundsIn_13 : decode (xb yyM_soundsIn) 13 = .ok (.getfield 7, 3) := by decide +kernel
theorem dM_soundsIn_16 : decode (xb yyM_soundsIn) 16 = .ok (.iload_n 1, 1) := by decide +kernel
theorem dM_soundsIn_17 : decode (xb yyM_soundsIn) 17 = .ok (.bipush 14, 2) := by decide +kernel
theorem dM_soundsIn_19 : decode (xb yyM_soundsIn) 19 = .ok (.iadd, 1) := by decide +kernel
theorem dM_soundsIn_20 : decode (xb yyM_soundsIn) 20 = .ok (.iload_n 2, 1) := by decide +kernel
theorem dM_soundsIn_21 : decode (xb yyM_soundsIn) 21 = .ok (.iadd, 1) := by decide +kernel
theorem dM_soundsIn_22 : decode (xb yyM_soundsIn) 22 = .ok (.iaload, 1) := by decide +kernel
theorem dM_soundsIn_23 : decode (xb yyM_soundsIn) 23 = .ok (.aload_n 0, 1) := by decide +kernel
theorem dM_soundsIn_24 : decode (xb yyM_soundsIn) 24 = .ok (.getfield 7, 3) := by decide +kernel
theorem dM_soundsIn_27 : decode (xb yyM_soundsIn) 27 = .ok (.iload_n 1, 1) := by decide +kernel
theorem dM_soundsIn_28 : decode (xb yyM_soundsIn) 28 = .ok (.bipush 20, 2) := by decide +kernel
theorem dM_soundsIn_30 : decode (xb yyM_soundsIn) 30 = .ok (.iadd, 1) := by decide +kernel
theorem dM_soundsIn_31 : decode (xb yyM_soundsIn) 31 = .ok (.iload_n 2, 1) := by decide +kernel
theorem dM_soundsIn_32 : decode (xb yyM_soundsIn) 32 = .ok (.iadd, 1) := by decide +kernel
theorem dM_soundsIn_33 : decode (xb yyM_soundsIn) 33 = .ok (.iaload, 1) := by decide +kernel
theorem dM_soundsIn_34 : decode (xb yyM_soundsIn) 34 = .ok (.invokestatic 195, 3) := by decide +kernel
theorem dM_soundsIn_37 : decode (xb yyM_soundsIn) 37 = .ok (.istore 4, 2) := by decide +kernel
theorem dM_soundsIn_39 : decode (xb yyM_soundsIn) 39 = .ok (.aload_n 0, 1) := by decide +kernel
theorem dM_soundsIn_40 : decode (xb yyM_soundsIn) 40 = .ok (.getfield 7, 3) := by decide +kernel
theorem dM_soundsIn_43 : decode (xb yyM_soundsIn) 43 = .ok (.iload_n 1, 1) := by decide +kernel
theorem dM_soundsIn_44 : decode (xb yyM_soundsIn) 44 = .ok (.bipush 32, 2) := by decide +kernel
theorem dM_soundsIn_46 : decode (xb yyM_soundsIn) 46 = .ok (.iadd, 1) := by decide +kernel
theorem dM_soundsIn_47 : decode (xb yyM_soundsIn) 47 = .ok (.iload_n 2, 1) := by decide +kernel
theorem dM_soundsIn_48 : decode (xb yyM_soundsIn) 48 = .ok (.iadd, 1) := by decide +kernel
theorem dM_soundsIn_49 : decode (xb yyM_soundsIn) 49 = .ok (.iaload, 1) := by decide +kernel
theorem dM_soundsIn_50 : decode (xb yyM_soundsIn) 50 = .ok (.iconst 1, 1) := by decide +kernel
theorem dM_soundsIn_51 : decode (xb yyM_soundsIn) 51 = .ok (.if_icmp .ne 10, 3) := by decide +kernel
theorem dM_soundsIn_54 : decode (xb yyM_soundsIn) 54 = .ok (.iload 4, 2) := by decide +kernel
theorem dM_soundsIn_56 : decode (xb yyM_soundsIn) 56 = .ok (.iconst 2, 1) := by decide +kernel
theorem dM_soundsIn_57 : decode (xb yyM_soundsIn) 57 = .ok (.idiv, 1) := by decide +kernel
theorem dM_soundsIn_58 : decode (xb yyM_soundsIn) 58 = .ok (.goto 5, 3) := by decide +kernel
theorem dM_soundsIn_61 : decode (xb yyM_soundsIn) 61 = .ok (.iload 4, 2) := by decide +kernel
theorem dM_soundsIn_63 : decode (xb yyM_soundsIn) 63 = .ok (.ireturn, 1) := by decide +kernel
def fM_soundsIn  (m : xM) (v1 : Int32) (v2 : Int32) (v3 : Int32) : Option (Int32) := xck 1752 ((v1 + (8 : Int32)) + v2) (xck 1752 ((v1 + (14 : Int32)) + v2) (xck 1752 ((v1 + (20 : Int32)) + v2) ((fM_soundOf (m.1 0 ((v1 + (8 : Int32)) + v2).toNatClampNeg) v3 (m.1 0 ((v1 + (14 : Int32)) + v2).toNatClampNeg) (m.1 0 ((v1 + (20 : Int32)) + v2).toNatClampNeg)).bind fun r34 => xck 1752 ((v1 + (32 : Int32)) + v2) ((if (m.1 0 ((v1 + (32 : Int32)) + v2).toNatClampNeg) = (1 : Int32) then some (r34 / (2 : Int32)) else some r34)))))
set_option maxRecDepth 100000 in
set_option maxHeartbeats 4000000 in
theorem kM_soundsIn (G : xG)   (z : xM) (m : xM) (v1 : Int32) (v2 : Int32) (v3 : Int32) : ∀ a, fM_soundsIn m v1 v2 v3 = some a → xCt G yyM_soundsIn [.ref (xa G 85), .int v1, .int v2, .int v3] (z, m) (some (.int a)) (z, m) := by
  refine xR_ct (em := (emi (z, m))) rfl (Nat.le_of_ble_eq_true rfl) ?_
  show xR G yyM_soundsIn _ 0 [(0, .ref (xa G 85)), (1, .int v1), (2, .int v2), (3, .int v3)] [] _ _
  unfold fM_soundsIn
  refine xR_aln 0 0 dM_soundsIn_0 rfl rfl ?_
  refine xR_getf 1 xcf7 0 85 (by decide) (by decide) rfl (v := .ref (xa G 86)) rfl fl_RX9_7 dM_soundsIn_1 ?_
  refine xR_iln 4 1 dM_soundsIn_4 rfl rfl ?_
  refine xR_bp 5 (8 : Int32) dM_soundsIn_5 (by decide) ?_
  refine xR_iadd 7 dM_soundsIn_7 ?_
  refine xR_iln 8 2 dM_soundsIn_8 rfl rfl ?_
  refine xR_iadd 9 dM_soundsIn_9 ?_
  refine xR_iald 10 86 (by decide) rfl dM_soundsIn_10 ?_
  refine xR_iln 11 3 dM_soundsIn_11 rfl rfl ?_
  refine xR_aln 12 0 dM_soundsIn_12 rfl rfl ?_
  refine xR_getf 13 xcf7 0 85 (by decide) (by decide) rfl (v := .ref (xa G 86)) rfl fl_RX9_7 dM_soundsIn_13 ?_
  refine xR_iln 16 1 dM_soundsIn_16 rfl rfl ?_
  refine xR_bp 17 (14 : Int32) dM_soundsIn_17 (by decide) ?_
  refine xR_iadd 19 dM_soundsIn_19 ?_
  refine xR_iln 20 2 dM_soundsIn_20 rfl rfl ?_
  refine xR_iadd 21 dM_soundsIn_21 ?_
  refine xR_iald 22 86 (by decide) rfl dM_soundsIn_22 ?_
  refine xR_aln 23 0 dM_soundsIn_23 rfl rfl ?_
  refine xR_getf 24 xcf7 0 85 (by decide) (by decide) rfl (v := .ref (xa G 86)) rfl fl_RX9_7 dM_soundsIn_24 ?_
  refine xR_iln 27 1 dM_soundsIn_27 rfl rfl ?_
  refine xR_bp 28 (20 : Int32) dM_soundsIn_28 (by decide) ?_
  refine xR_iadd 30 dM_soundsIn_30 ?_
  refine xR_iln 31 2 dM_soundsIn_31 rfl rfl ?_
  refine xR_iadd 32 dM_soundsIn_32 ?_
  refine xR_iald 33 86 (by decide) rfl dM_soundsIn_33 ?_
  refine xR_callSi 34 cs_M_soundOf ml_RX9_195 ⟨Nat.le_of_ble_eq_true rfl, Nat.le_of_ble_eq_true rfl⟩ [.int (m.1 0 ((v1 + (8 : Int32)) + v2).toNatClampNeg), .int v3, .int (m.1 0 ((v1 + (14 : Int32)) + v2).toNatClampNeg), .int (m.1 0 ((v1 + (20 : Int32)) + v2).toNatClampNeg)] rfl rfl (Nat.le_of_ble_eq_true rfl) dM_soundsIn_34 (kM_soundOf G (z, m) (m.1 0 ((v1 + (8 : Int32)) + v2).toNatClampNeg) v3 (m.1 0 ((v1 + (14 : Int32)) + v2).toNatClampNeg) (m.1 0 ((v1 + (20 : Int32)) + v2).toNatClampNeg)) (fun r34 => ?_)
  refine xR_is 37 ([(4, .int r34), (0, .ref (xa G 85)), (1, .int v1), (2, .int v2), (3, .int v3)]) dM_soundsIn_37 (by decide) rfl ?_
  refine xR_aln 39 1 dM_soundsIn_39 rfl rfl ?_
  refine xR_getf 40 xcf7 0 85 (by decide) (by decide) rfl (v := .ref (xa G 86)) rfl fl_RX9_7 dM_soundsIn_40 ?_
  refine xR_iln 43 2 dM_soundsIn_43 rfl rfl ?_
  refine xR_bp 44 (32 : Int32) dM_soundsIn_44 (by decide) ?_
  refine xR_iadd 46 dM_soundsIn_46 ?_
  refine xR_iln 47 3 dM_soundsIn_47 rfl rfl ?_
  refine xR_iadd 48 dM_soundsIn_48 ?_
  refine xR_iald 49 86 (by decide) rfl dM_soundsIn_49 ?_
  refine xR_ic 50 (1 : Int32) dM_soundsIn_50 (by decide) ?_
  refine xR_icne 51 61 dM_soundsIn_51 (by decide) ?_ ?_
  · refine xR_il 61 0 dM_soundsIn_61 rfl ?_
    exact xR_iret 63 rfl rfl dM_soundsIn_63
  · refine xR_il 54 0 dM_soundsIn_54 rfl ?_
    refine xR_ic 56 (2 : Int32) dM_soundsIn_56 (by decide) ?_
    refine xR_idiv 57 dM_soundsIn_57 (by decide) ?_
    refine xR_goto 58 63 dM_soundsIn_58 (by decide) ?_
    exact xR_iret 63 rfl rfl dM_soundsIn_63
theorem dM_playsIn_0 : decode (xb yyM_playsIn) 0 = .ok (.iconst 0, 1) := by decide +kernel
theorem dM_playsIn_1 : decode (xb yyM_playsIn) 1 = .ok (.istore 4, 2) := by decide +kernel
theorem dM_playsIn_3 : decode (xb yyM_playsIn) 3 = .ok (.iconst 0, 1) := by decide +kernel
theorem dM_playsIn_4 : decode (xb yyM_playsIn) 4 = .ok (.istore 5, 2) := by decide +kernel
theorem dM_playsIn_6 : decode (xb yyM_playsIn) 6 = .ok (.iload 5, 2) := by decide +kernel
theorem dM_playsIn_8 : decode (xb yyM_playsIn) 8 = .ok (.aload_n 0, 1) := by decide +kernel
theorem dM_playsIn_9 : decode (xb yyM_playsIn) 9 = .ok (.getfield 7, 3) := by decide +kernel
theorem dM_playsIn_12 : decode (xb yyM_playsIn) 12 = .ok (.iload_n 1, 1) := by decide +kernel
theorem dM_playsIn_13 : decode (xb yyM_playsIn) 13 = .ok (.iconst 0, 1) := by decide +kernel
theorem dM_playsIn_14 : decode (xb yyM_playsIn) 14 = .ok (.iadd, 1) := by decide +kernel
theorem dM_playsIn_15 : decode (xb yyM_playsIn) 15 = .ok (.iaload, 1) := by decide +kernel
theorem dM_playsIn_16 : decode (xb yyM_playsIn) 16 = .ok (.if_icmp .ge 42, 3) := by decide +kernel
theorem dM_playsIn_19 : decode (xb yyM_playsIn) 19 = .ok (.iload 4, 2) := by decide +kernel
theorem dM_playsIn_21 : decode (xb yyM_playsIn) 21 = .ok (.aload_n 0, 1) := by decide +kernel
theorem dM_playsIn_22 : decode (xb yyM_playsIn) 22 = .ok (.getfield 7, 3) := by decide +kernel
theorem dM_playsIn_25 : decode (xb yyM_playsIn) 25 = .ok (.iload_n 1, 1) := by decide +kernel
theorem dM_playsIn_26 : decode (xb yyM_playsIn) 26 = .ok (.bipush 38, 2) := by decide +kernel
theorem dM_playsIn_28 : decode (xb yyM_playsIn) 28 = .ok (.iadd, 1) := by decide +kernel
theorem dM_playsIn_29 : decode (xb yyM_playsIn) 29 = .ok (.iload 5, 2) := by decide +kernel
theorem dM_playsIn_31 : decode (xb yyM_playsIn) 31 = .ok (.iadd, 1) := by decide +kernel
theorem dM_playsIn_32 : decode (xb yyM_playsIn) 32 = .ok (.iaload, 1) := by decide +kernel
theorem dM_playsIn_33 : decode (xb yyM_playsIn) 33 = .ok (.iload_n 2, 1) := by decide +kernel
theorem dM_playsIn_34 : decode (xb yyM_playsIn) 34 = .ok (.if_icmp .ne 14, 3) := by decide +kernel
theorem dM_playsIn_37 : decode (xb yyM_playsIn) 37 = .ok (.aload_n 0, 1) := by decide +kernel
theorem dM_playsIn_38 : decode (xb yyM_playsIn) 38 = .ok (.iload_n 1, 1) := by decide +kernel
theorem dM_playsIn_39 : decode (xb yyM_playsIn) 39 = .ok (.iload 5, 2) := by decide +kernel
theorem dM_playsIn_41 : decode (xb yyM_playsIn) 41 = .ok (.iload_n 3, 1) := by decide +kernel
theorem dM_playsIn_42 : decode (xb yyM_playsIn) 42 = .ok (.invokevirtual 199, 3) := by decide +kernel
theorem dM_playsIn_45 : decode (xb yyM_playsIn) 45 = .ok (.goto 4, 3) := by decide +kernel
theorem dM_playsIn_48 : decode (xb yyM_playsIn) 48 = .ok (.iconst 0, 1) := by decide +kernel
theorem dM_playsIn_49 : decode (xb yyM_playsIn) 49 = .ok (.iadd, 1) := by decide +kernel
theorem dM_playsIn_50 : decode (xb yyM_playsIn) 50 = .ok (.istore 4, 2) := by decide +kernel
theorem dM_playsIn_52 : decode (xb yyM_playsIn) 52 = .ok (.iinc 5 1, 3) := by decide +kernel
theorem dM_playsIn_55 : decode (xb yyM_playsIn) 55 = .ok (.goto (-49), 3) := by decide +kernel
theorem dM_playsIn_58 : decode (xb yyM_playsIn) 58 = .ok (.aload_n 0, 1) := by decide +kernel
theorem dM_playsIn_59 : decode (xb yyM_playsIn) 59 = .ok (.getfield 7, 3) := by decide +kernel
theorem dM_playsIn_62 : decode (xb yyM_playsIn) 62 = .ok (.iload_n 1, 1) := by decide +kernel
theorem dM_playsIn_63 : decode (xb yyM_playsIn) 63 = .ok (.bipush 44, 2) := by decide +kernel
theorem dM_playsIn_65 : decode (xb yyM_playsIn) 65 = .ok (.iadd, 1) := by decide +kernel
theorem dM_playsIn_66 : decode (xb yyM_playsIn) 66 = .ok (.iload_n 2, 1) := by decide +kernel
theorem dM_playsIn_67 : decode (xb yyM_playsIn) 67 = .ok (.iadd, 1) := by decide +kernel
theorem dM_playsIn_68 : decode (xb yyM_playsIn) 68 = .ok (.iaload, 1) := by decide +kernel
theorem dM_playsIn_69 : decode (xb yyM_playsIn) 69 = .ok (.iload_n 3, 1) := by decide +kernel
theorem dM_playsIn_70 : decode (xb yyM_playsIn) 70 = .ok (.iload 4, 2) := by decide +kernel
theorem dM_playsIn_72 : decode (xb yyM_playsIn) 72 = .ok (.aload_n 0, 1) := by decide +kernel
theorem dM_playsIn_73 : decode (xb yyM_playsIn) 73 = .ok (.iload_n 1, 1) := by decide +kernel
theorem dM_playsIn_74 : decode (xb yyM_playsIn) 74 = .ok (.iload_n 2, 1) := by decide +kernel
theorem dM_playsIn_75 : decode (xb yyM_playsIn) 75 = .ok (.invokevirtual 192, 3) := by decide +kernel
theorem dM_playsIn_78 : decode (xb yyM_playsIn) 78 = .ok (.aload_n 0, 1) := by decide +kernel
theorem dM_playsIn_79 : decode (xb yyM_playsIn) 79 = .ok (.iload_n 1, 1) := by decide +kernel
theorem dM_playsIn_80 : decode (xb yyM_playsIn) 80 = .ok (.iload_n 2, 1) := by decide +kernel
theorem dM_playsIn_81 : decode (xb yyM_playsIn) 81 = .ok (.invokevirtual 127, 3) := by decide +kernel
theorem dM_playsIn_84 : decode (xb yyM_playsIn) 84 = .ok (.invokestatic 202, 3) := by decide +kernel
theorem dM_playsIn_87 : decode (xb yyM_playsIn) 87 = .ok (.ireturn, 1) := by decide +kernel
def fM_playsIn_b49  (m : xM) (k6 : Int32 → Int32 → Int32 → Int32 → Int32 → Option (Int32)) (v1 : Int32) (v2 : Int32) (v3 : Int32) (v5 : Int32) (s0 : Int32) (s1 : Int32) : Option (Int32) := k6 v1 v2 v3 (s1 + s0) (v5 + 1)
def fM_playsIn_l6  (m : xM) : Nat → Int32 → Int32 → Int32 → Int32 → Int32 → Option (Int32)
  | 0, _, _, _, _, _ => none
  | n + 1, v1, v2, v3, v4, v5 => xck 1752 (v1 + (0 : Int32)) ((if (m.1 0 (v1 + (0 : Int32)).toNatClampNeg) ≤ v5 then xck 1752 ((v1 + (44 : Int32)) + v2) ((fM_housesOf m v1 v2).bind fun r75 => (fM_boardsOf m v1 v2).bind fun r81 => (fM_playOf (m.1 0 ((v1 + (44 : Int32)) + v2).toNatClampNeg) v3 v4 r75 r81).bind fun r84 => some r84) else xck 1752 ((v1 + (38 : Int32)) + v5) ((if (m.1 0 ((v1 + (38 : Int32)) + v5).toNatClampNeg) = v2 then (fM_soundsIn m v1 v5 v3).bind fun r42 => fM_playsIn_b49 m (fM_playsIn_l6 m n) v1 v2 v3 v5 r42 v4 else fM_playsIn_b49 m (fM_playsIn_l6 m n) v1 v2 v3 v5 (0 : Int32) v4))))
def fM_playsIn  (m : xM) (v1 : Int32) (v2 : Int32) (v3 : Int32) : Option (Int32) := fM_playsIn_l6 m xfu v1 v2 v3 (0 : Int32) (0 : Int32)
set_option maxRecDepth 100000 in
set_option maxHeartbeats 4000000 in
theorem kM_playsIn_b49 (G : xG)   (z : xM) (m : xM) (k6 : Int32 → Int32 → Int32 → Int32 → Int32 → Option (Int32)) (hk6 : ∀ (v1 : Int32) (v2 : Int32) (v3 : Int32) (v4 : Int32) (v5 : Int32), xR G yyM_playsIn (emi (z, m)) 6 [(0, .ref (xa G 85)), (1, .int v1), (2, .int v2), (3, .int v3), (4, .int v4), (5, .int v5)] [] (z, m) (k6 v1 v2 v3 v4 v5)) (v1 : Int32) (v2 : Int32) (v3 : Int32) (v5 : Int32) (s0 : Int32) (s1 : Int32) : xR G yyM_playsIn (emi (z, m)) 49 [(0, .ref (xa G 85)), (1, .int v1), (2, .int v2), (3, .int v3), (5, .int v5)] [.int s0, .int s1] (z, m) (fM_playsIn_b49 m k6 v1 v2 v3 v5 s0 s1) := by
  unfold fM_playsIn_b49
  refine xR_iadd 49 dM_playsIn_49 ?_
  refine xR_is 50 ([(4, .int (s1 + s0)), (0, .ref (xa G 85)), (1, .int v1), (2, .int v2), (3, .int v3), (5, .int v5)]) dM_playsIn_50 (by decide) rfl ?_
  refine xR_iinc 52 5 (v5 + 1) ([(5, .int (v5 + 1)), (4, .int (s1 + s0)), (0, .ref (xa G 85)), (1, .int v1), (2, .int v2), (3, .int v3)]) dM_playsIn_52 rfl rfl (by decide) rfl ?_
  refine xR_goto 55 6 dM_playsIn_55 (by decide) ?_
  exact xR_sub [2, 3, 4, 5, 1, 0] rfl (hk6 v1 v2 v3 (s1 + s0) (v5 + 1))
set_option maxRecDepth 100000 in
set_option maxHeartbeats 4000000 in
theorem kM_playsIn_l6 (G : xG)   (z : xM) (m : xM)   : ∀ (n : Nat) (v1 : Int32) (v2 : Int32) (v3 : Int32) (v4 : Int32) (v5 : Int32), xR G yyM_playsIn (emi (z, m)) 6 [(0, .ref (xa G 85)), (1, .int v1), (2, .int v2), (3, .int v3), (4, .int v4), (5, .int v5)] [] (z, m) (fM_playsIn_l6 m n v1 v2 v3 v4 v5) := by
  intro n
  induction n with
  | zero =>
    intro v1 v2 v3 v4 v5
    rw [fM_playsIn_l6]
    exact xR_none
  | succ n ih =>
    intro v1 v2 v3 v4 v5
    rw [fM_playsIn_l6]
    refine xR_il 6 5 dM_playsIn_6 rfl ?_
    refine xR_aln 8 0 dM_playsIn_8 rfl rfl ?_
    refine xR_getf 9 xcf7 0 85 (by decide) (by decide) rfl (v := .ref (xa G 86)) rfl fl_RX9_7 dM_playsIn_9 ?_
    refine xR_iln 12 1 dM_playsIn_12 rfl rfl ?_
    refine xR_ic 13 (0 : Int32) dM_playsIn_13 (by decide) ?_
    refine xR_iadd 14 dM_playsIn_14 ?_
    refine xR_iald 15 86 (by decide) rfl dM_playsIn_15 ?_
    refine xR_icge 16 58 dM_playsIn_16 (by decide) ?_ ?_
    · refine xR_aln 58 0 dM_playsIn_58 rfl rfl ?_
      refine xR_getf 59 xcf7 0 85 (by decide) (by decide) rfl (v := .ref (xa G 86)) rfl fl_RX9_7 dM_playsIn_59 ?_
      refine xR_iln 62 1 dM_playsIn_62 rfl rfl ?_
      refine xR_bp 63 (44 : Int32) dM_playsIn_63 (by decide) ?_
      refine xR_iadd 65 dM_playsIn_65 ?_
      refine xR_iln 66 2 dM_playsIn_66 rfl rfl ?_
      refine xR_iadd 67 dM_playsIn_67 ?_
      refine xR_iald 68 86 (by decide) rfl dM_playsIn_68 ?_
      refine xR_iln 69 3 dM_playsIn_69 rfl rfl ?_
      refine xR_il 70 4 dM_playsIn_70 rfl ?_
      refine xR_aln 72 0 dM_playsIn_72 rfl rfl ?_
      refine xR_iln 73 1 dM_playsIn_73 rfl rfl ?_
      refine xR_iln 74 2 dM_playsIn_74 rfl rfl ?_
      refine xR_callVi 75 cv_M_housesOf ml_RX9_192 ⟨Nat.le_of_ble_eq_true rfl, Nat.le_of_ble_eq_true rfl⟩ xcf7 rfl 85 (by decide) rfl [.int v1, .int v2] rfl rfl (Nat.le_of_ble_eq_true rfl) dM_playsIn_75 (kM_housesOf G z m v1 v2) (fun r75 => ?_)
      refine xR_aln 78 0 dM_playsIn_78 rfl rfl ?_
      refine xR_iln 79 1 dM_playsIn_79 rfl rfl ?_
      refine xR_iln 80 2 dM_playsIn_80 rfl rfl ?_
      refine xR_callVi 81 cv_M_boardsOf ml_RX9_127 ⟨Nat.le_of_ble_eq_true rfl, Nat.le_of_ble_eq_true rfl⟩ xcf7 rfl 85 (by decide) rfl [.int v1, .int v2] rfl rfl (Nat.le_of_ble_eq_true rfl) dM_playsIn_81 (kM_boardsOf G z m v1 v2) (fun r81 => ?_)
      refine xR_callSi 84 cs_M_playOf ml_RX9_202 ⟨Nat.le_of_ble_eq_true rfl, Nat.le_of_ble_eq_true rfl⟩ [.int (m.1 0 ((v1 + (44 : Int32)) + v2).toNatClampNeg), .int v3, .int v4, .int r75, .int r81] rfl rfl (Nat.le_of_ble_eq_true rfl) dM_playsIn_84 (kM_playOf G (z, m) (m.1 0 ((v1 + (44 : Int32)) + v2).toNatClampNeg) v3 v4 r75 r81) (fun r84 => ?_)
      exact xR_iret 87 rfl rfl dM_playsIn_87
    · refine xR_il 19 4 dM_playsIn_19 rfl ?_
      refine xR_aln 21 0 dM_playsIn_21 rfl rfl ?_
      refine xR_getf 22 xcf7 0 85 (by decide) (by decide) rfl (v := .ref (xa G 86)) rfl fl_RX9_7 dM_playsIn_22 ?_
      refine xR_iln 25 1 dM_playsIn_25 rfl rfl ?_
      refine xR_bp 26 (38 : Int32) dM_playsIn_26 (by decide) ?_
      refine xR_iadd 28 dM_playsIn_28 ?_
      refine xR_il 29 5 dM_playsIn_29 rfl ?_
      refine xR_iadd 31 dM_playsIn_31 ?_
      refine xR_iald 32 86 (by decide) rfl dM_playsIn_32 ?_
      refine xR_iln 33 2 dM_playsIn_33 rfl rfl ?_
      refine xR_icne 34 48 dM_playsIn_34 (by decide) ?_ ?_
      · refine xR_ic 48 (0 : Int32) dM_playsIn_48 (by decide) ?_
        exact xR_sub [0, 1, 2, 3, 5] rfl (kM_playsIn_b49 G z m (fM_playsIn_l6 m n) ih v1 v2 v3 v5 (0 : Int32) v4)
      · refine xR_aln 37 0 dM_playsIn_37 rfl rfl ?_
        refine xR_iln 38 1 dM_playsIn_38 rfl rfl ?_
        refine xR_il 39 5 dM_playsIn_39 rfl ?_
        refine xR_iln 41 3 dM_playsIn_41 rfl rfl ?_
        refine xR_callVi 42 cv_M_soundsIn ml_RX9_199 ⟨Nat.le_of_ble_eq_true rfl, Nat.le_of_ble_eq_true rfl⟩ xcf7 rfl 85 (by decide) rfl [.int v1, .int v5, .int v3] rfl rfl (Nat.le_of_ble_eq_true rfl) dM_playsIn_42 (kM_soundsIn G z m v1 v5 v3) (fun r42 => ?_)
        refine xR_goto 45 49 dM_playsIn_45 (by decide) ?_
        exact xR_sub [0, 1, 2, 3, 5] rfl (kM_playsIn_b49 G z m (fM_playsIn_l6 m n) ih v1 v2 v3 v5 r42 v4)
set_option maxRecDepth 100000 in
set_option maxHeartbeats 4000000 in
theorem kM_playsIn (G : xG)   (z : xM) (m : xM) (v1 : Int32) (v2 : Int32) (v3 : Int32) : ∀ a, fM_playsIn m v1 v2 v3 = some a → xCt G yyM_playsIn [.ref (xa G 85), .int v1, .int v2, .int v3] (z, m) (some (.int a)) (z, m) := by
  refine xR_ct (em := (emi (z, m))) rfl (Nat.le_of_ble_eq_true rfl) ?_
  show xR G yyM_playsIn _ 0 [(0, .ref (xa G 85)), (1, .int v1), (2, .int v2), (3, .int v3)] [] _ _
  unfold fM_playsIn
  refine xR_ic 0 (0 : Int32) dM_playsIn_0 (by decide) ?_
  refine xR_is 1 ([(4, .int (0 : Int32)), (0, .ref (xa G 85)), (1, .int v1), (2, .int v2), (3, .int v3)]) dM_playsIn_1 (by decide) rfl ?_
  refine xR_ic 3 (0 : Int32) dM_playsIn_3 (by decide) ?_
  refine xR_is 4 ([(5, .int (0 : Int32)), (4, .int (0 : Int32)), (0, .ref (xa G 85)), (1, .int v1), (2, .int v2), (3, .int v3)]) dM_playsIn_4 (by decide) rfl ?_
  exact xR_sub [2, 3, 4, 5, 1, 0] rfl (kM_playsIn_l6 G z m xfu v1 v2 v3 (0 : Int32) (0 : Int32))
theorem dM_sounds_0 : decode (xb yyM_sounds) 0 = .ok (.aload_n 0, 1) := by decide +kernel
theorem dM_sounds_1 : decode (xb yyM_sounds) 1 = .ok (.iload_n 1, 1) := by decide +kernel
theorem dM_sounds_2 : decode (xb yyM_sounds) 2 = .ok (.invokevirtual 84, 3) := by decide +kernel
theorem dM_sounds_5 : decode (xb yyM_sounds) 5 = .ok (.ifCond .eq 20, 3) := by decide +kernel
theorem dM_sounds_8 : decode (xb yyM_sounds) 8 = .ok (.iload_n 2, 1) := by decide +kernel
theorem dM_sounds_9 : decode (xb yyM_sounds) 9 = .ok (.invokestatic 206, 3) := by decide +kernel
theorem dM_sounds_12 : decode (xb yyM_sounds) 12 = .ok (.ifCond .eq 13, 3) := by decide +kernel
theorem dM_sounds_15 : decode (xb yyM_sounds) 15 = .ok (.aload_n 0, 1) := by decide +kernel
theorem dM_sounds_16 : decode (xb yyM_sounds) 16 = .ok (.iconst 0, 1) := by decide +kernel
theorem dM_sounds_17 : decode (xb yyM_sounds) 17 = .ok (.iload_n 1, 1) := by decide +kernel
theorem dM_sounds_18 : decode (xb yyM_sounds) 18 = .ok (.iload_n 2, 1) := by decide +kernel
theorem dM_sounds_19 : decode (xb yyM_sounds) 19 = .ok (.invokevirtual 199, 3) := by decide +kernel
theorem dM_sounds_22 : decode (xb yyM_sounds) 22 = .ok (.goto 9, 3) := by decide +kernel
theorem dM_sounds_25 : decode (xb yyM_sounds) 25 = .ok (.aload_n 0, 1) := by decide +kernel
theorem dM_sounds_26 : decode (xb yyM_sounds) 26 = .ok (.bipush (-2), 2) := by decide +kernel
theorem dM_sounds_28 : decode (xb yyM_sounds) 28 = .ok (.invokevirtual 66, 3) := by decide +kernel
theorem dM_sounds_31 : decode (xb yyM_sounds) 31 = .ok (.ireturn, 1) := by decide +kernel
def fM_sounds  (v1 : Int32) (v2 : Int32) (m : xM) : Option (Int32 × xM) := (fM_isBoard m v1).bind fun r2 => (if r2 = 0 then (fM_bad (-2 : Int32) m).bind fun r28 => some (r28.1, r28.2) else (fM_isString v2).bind fun r9 => (if r9 = 0 then (fM_bad (-2 : Int32) m).bind fun r28 => some (r28.1, r28.2) else (fM_soundsIn m (0 : Int32) v1 v2).bind fun r19 => some (r19, m)))
set_option maxRecDepth 100000 in
set_option maxHeartbeats 4000000 in
theorem kM_sounds (G : xG)   (z : xM) (m : xM) (v1 : Int32) (v2 : Int32) : ∀ a, fM_sounds  v1 v2 m = some a → xCt G yyM_sounds [.ref (xa G 85), .int v1, .int v2] (z, m) (some (.int a.1)) (z, a.2) := by
  refine xR_ct (em := (emim z)) rfl (Nat.le_of_ble_eq_true rfl) ?_
  show xR G yyM_sounds _ 0 [(0, .ref (xa G 85)), (1, .int v1), (2, .int v2)] [] _ _
  unfold fM_sounds
  refine xR_aln 0 0 dM_sounds_0 rfl rfl ?_
  refine xR_iln 1 1 dM_sounds_1 rfl rfl ?_
  refine xR_callVi 2 cv_M_isBoard ml_RX9_84 ⟨Nat.le_of_ble_eq_true rfl, Nat.le_of_ble_eq_true rfl⟩ xcf7 rfl 85 (by decide) rfl [.int v1] rfl rfl (Nat.le_of_ble_eq_true rfl) dM_sounds_2 (kM_isBoard G z m v1) (fun r2 => ?_)
  refine xR_ifeq 5 25 dM_sounds_5 (by decide) ?_ ?_
  · refine xR_aln 25 0 dM_sounds_25 rfl rfl ?_
    refine xR_bp 26 (-2 : Int32) dM_sounds_26 (by decide) ?_
    refine xR_callVim 28 cv_M_bad ml_RX9_66 ⟨Nat.le_of_ble_eq_true rfl, Nat.le_of_ble_eq_true rfl⟩ xcf7 rfl 85 (by decide) rfl [.int (-2 : Int32)] rfl rfl (Nat.le_of_ble_eq_true rfl) dM_sounds_28 (kM_bad G z m (-2 : Int32)) (fun r28 => ?_)
    exact xR_iret 31 rfl rfl dM_sounds_31
  · refine xR_iln 8 2 dM_sounds_8 rfl rfl ?_
    refine xR_callSi 9 cs_M_isString ml_RX9_206 ⟨Nat.le_of_ble_eq_true rfl, Nat.le_of_ble_eq_true rfl⟩ [.int v2] rfl rfl (Nat.le_of_ble_eq_true rfl) dM_sounds_9 (kM_isString G (z, m) v2) (fun r9 => ?_)
    refine xR_ifeq 12 25 dM_sounds_12 (by decide) ?_ ?_
    · refine xR_aln 25 0 dM_sounds_25 rfl rfl ?_
      refine xR_bp 26 (-2 : Int32) dM_sounds_26 (by decide) ?_
      refine xR_callVim 28 cv_M_bad ml_RX9_66 ⟨Nat.le_of_ble_eq_true rfl, Nat.le_of_ble_eq_true rfl⟩ xcf7 rfl 85 (by decide) rfl [.int (-2 : Int32)] rfl rfl (Nat.le_of_ble_eq_true rfl) dM_sounds_28 (kM_bad G z m (-2 : Int32)) (fun r28 => ?_)
      exact xR_iret 31 rfl rfl dM_sounds_31
    · refine xR_aln 15 0 dM_sounds_15 rfl rfl ?_
      refine xR_ic 16 (0 : Int32) dM_sounds_16 (by decide) ?_
      refine xR_iln 17 1 dM_sounds_17 rfl rfl ?_
      refine xR_iln 18 2 dM_sounds_18 rfl rfl ?_
      refine xR_callVi 19 cv_M_soundsIn ml_RX9_199 ⟨Nat.le_of_ble_eq_true rfl, Nat.le_of_ble_eq_true rfl⟩ xcf7 rfl 85 (by decide) rfl [.int (0 : Int32), .int v1, .int v2] rfl rfl (Nat.le_of_ble_eq_true rfl) dM_sounds_19 (kM_soundsIn G z m (0 : Int32) v1 v2) (fun r19 => ?_)
      refine xR_goto 22 31 dM_sounds_22 (by decide) ?_
      exact xR_iret 31 rfl rfl dM_sounds_31
theorem dM_plays_0 : decode (xb yyM_plays) 0 = .ok (.aload_n 0, 1) := by decide +kernel
theorem dM_plays_1 : decode (xb yyM_plays) 1 = .ok (.iload_n 1, 1) := by decide +kernel
theorem dM_plays_2 : decode (xb yyM_plays) 2 = .ok (.invokevirtual 177, 3) := by decide +kernel
theorem dM_plays_5 : decode (xb yyM_plays) 5 = .ok (.ifCond .eq 20, 3) := by decide +kernel
theorem dM_plays_8 : decode (xb yyM_plays) 8 = .ok (.iload_n 2, 1) := by decide +kernel
theorem dM_plays_9 : decode (xb yyM_plays) 9 = .ok (.invokestatic 206, 3) := by decide +kernel
theorem dM_plays_12 : decode (xb yyM_plays) 12 = .ok (.ifCond .eq 13, 3) := by decide +kernel
theorem dM_plays_15 : decode (xb yyM_plays) 15 = .ok (.aload_n 0, 1) := by decide +kernel
theorem dM_plays_16 : decode (xb yyM_plays) 16 = .ok (.iconst 0, 1) := by decide +kernel
theorem dM_plays_17 : decode (xb yyM_plays) 17 = .ok (.iload_n 1, 1) := by decide +kernel
theorem dM_plays_18 : decode (xb yyM_plays) 18 = .ok (.iload_n 2, 1) := by decide +kernel
theorem dM_plays_19 : decode (xb yyM_plays) 19 = .ok (.invokevirtual 209, 3) := by decide +kernel
theorem dM_plays_22 : decode (xb yyM_plays) 22 = .ok (.goto 9, 3) := by decide +kernel
theorem dM_plays_25 : decode (xb yyM_plays) 25 = .ok (.aload_n 0, 1) := by decide +kernel
theorem dM_plays_26 : decode (xb yyM_plays) 26 = .ok (.bipush (-2), 2) := by decide +kernel
theorem dM_plays_28 : decode (xb yyM_plays) 28 = .ok (.invokevirtual 66, 3) := by decide +kernel
theorem dM_plays_31 : decode (xb yyM_plays) 31 = .ok (.ireturn, 1) := by decide +kernel
def fM_plays  (v1 : Int32) (v2 : Int32) (m : xM) : Option (Int32 × xM) := (fM_isInstrument m v1).bind fun r2 => (if r2 = 0 then (fM_bad (-2 : Int32) m).bind fun r28 => some (r28.1, r28.2) else (fM_isString v2).bind fun r9 => (if r9 = 0 then (fM_bad (-2 : Int32) m).bind fun r28 => some (r28.1, r28.2) else (fM_playsIn m (0 : Int32) v1 v2).bind fun r19 => some (r19, m)))
set_option maxRecDepth 100000 in
set_option maxHeartbeats 4000000 in
theorem kM_plays (G : xG)   (z : xM) (m : xM) (v1 : Int32) (v2 : Int32) : ∀ a, fM_plays  v1 v2 m = some a → xCt G yyM_plays [.ref (xa G 85), .int v1, .int v2] (z, m) (some (.int a.1)) (z, a.2) := by
  refine xR_ct (em := (emim z)) rfl (Nat.le_of_ble_eq_true rfl) ?_
  show xR G yyM_plays _ 0 [(0, .ref (xa G 85)), (1, .int v1), (2, .int v2)] [] _ _
  unfold fM_plays
  refine xR_aln 0 0 dM_plays_0 rfl rfl ?_
  refine xR_iln 1 1 dM_plays_1 rfl rfl ?_
  refine xR_callVi 2 cv_M_isInstrument ml_RX9_177 ⟨Nat.le_of_ble_eq_true rfl, Nat.le_of_ble_eq_true rfl⟩ xcf7 rfl 85 (by decide) rfl [.int v1] rfl rfl (Nat.le_of_ble_eq_true rfl) dM_plays_2 (kM_isInstrument G z m v1) (fun r2 => ?_)
  refine xR_ifeq 5 25 dM_plays_5 (by decide) ?_ ?_
  · refine xR_aln 25 0 dM_plays_25 rfl rfl ?_
    refine xR_bp 26 (-2 : Int32) dM_plays_26 (by decide) ?_
    refine xR_callVim 28 cv_M_bad ml_RX9_66 ⟨Nat.le_of_ble_eq_true rfl, Nat.le_of_ble_eq_true rfl⟩ xcf7 rfl 85 (by decide) rfl [.int (-2 : Int32)] rfl rfl (Nat.le_of_ble_eq_true rfl) dM_plays_28 (kM_bad G z m (-2 : Int32)) (fun r28 => ?_)
    exact xR_iret 31 rfl rfl dM_plays_31
  · refine xR_iln 8 2 dM_plays_8 rfl rfl ?_
    refine xR_callSi 9 cs_M_isString ml_RX9_206 ⟨Nat.le_of_ble_eq_true rfl, Nat.le_of_ble_eq_true rfl⟩ [.int v2] rfl rfl (Nat.le_of_ble_eq_true rfl) dM_plays_9 (kM_isString G (z, m) v2) (fun r9 => ?_)
    refine xR_ifeq 12 25 dM_plays_12 (by decide) ?_ ?_
    · refine xR_aln 25 0 dM_plays_25 rfl rfl ?_
      refine xR_bp 26 (-2 : Int32) dM_plays_26 (by decide) ?_
      refine xR_callVim 28 cv_M_bad ml_RX9_66 ⟨Nat.le_of_ble_eq_true rfl, Nat.le_of_ble_eq_true rfl⟩ xcf7 rfl 85 (by decide) rfl [.int (-2 : Int32)] rfl rfl (Nat.le_of_ble_eq_true rfl) dM_plays_28 (kM_bad G z m (-2 : Int32)) (fun r28 => ?_)
      exact xR_iret 31 rfl rfl dM_plays_31
    · refine xR_aln 15 0 dM_plays_15 rfl rfl ?_
      refine xR_ic 16 (0 : Int32) dM_plays_16 (by decide) ?_
      refine xR_iln 17 1 dM_plays_17 rfl rfl ?_
      refine xR_iln 18 2 dM_plays_18 rfl rfl ?_
      refine xR_callVi 19 cv_M_playsIn ml_RX9_209 ⟨Nat.le_of_ble_eq_true rfl, Nat.le_of_ble_eq_true rfl⟩ xcf7 rfl 85 (by decide) rfl [.int (0 : Int32), .int v1, .int v2] rfl rfl (Nat.le_of_ble_eq_true rfl) dM_plays_19 (kM_playsIn G z m (0 : Int32) v1 v2) (fun r19 => ?_)
      refine xR_goto 22 31 dM_plays_22 (by decide) ?_
      exact xR_iret 31 rfl rfl dM_plays_31
theorem dM_tries_0 : decode (xb yyM_tries) 0 = .ok (.iconst 0, 1) := by decide +kernel
theorem dM_tries_1 : decode (xb yyM_tries) 1 = .ok (.istore_n 1, 1) := by decide +kernel
theorem dM_tries_2 : decode (xb yyM_tries) 2 = .ok (.iload_n 1, 1) := by decide +kernel
theorem dM_tries_3 : decode (xb yyM_tries) 3 = .ok (.bipush 48, 2) := by decide +kernel
theorem dM_tries_5 : decode (xb yyM_tries) 5 = .ok (.if_icmp .ge 25, 3) := by decide +kernel
theorem dM_tries_8 : decode (xb yyM_tries) 8 = .ok (.aload_n 0, 1) := by decide +kernel
theorem dM_tries_9 : decode (xb yyM_tries) 9 = .ok (.getfield 7, 3) := by decide +kernel
theorem dM_tries_12 : decode (xb yyM_tries) 12 = .ok (.sipush 1704, 3) := by decide +kernel
theorem dM_tries_15 : decode (xb yyM_tries) 15 = .ok (.iload_n 1, 1) := by decide +kernel
theorem dM_tries_16 : decode (xb yyM_tries) 16 = .ok (.iadd, 1) := by decide +kernel
theorem dM_tries_17 : decode (xb yyM_tries) 17 = .ok (.aload_n 0, 1) := by decide +kernel
theorem dM_tries_18 : decode (xb yyM_tries) 18 = .ok (.getfield 7, 3) := by decide +kernel
theorem dM_tries_21 : decode (xb yyM_tries) 21 = .ok (.iload_n 1, 1) := by decide +kernel
theorem dM_tries_22 : decode (xb yyM_tries) 22 = .ok (.iaload, 1) := by decide +kernel
theorem dM_tries_23 : decode (xb yyM_tries) 23 = .ok (.iastore, 1) := by decide +kernel
theorem dM_tries_24 : decode (xb yyM_tries) 24 = .ok (.iinc 1 1, 3) := by decide +kernel
theorem dM_tries_27 : decode (xb yyM_tries) 27 = .ok (.goto (-25), 3) := by decide +kernel
theorem dM_tries_30 : decode (xb yyM_tries) 30 = .ok (.return_, 1) := by decide +kernel
def fM_tries_l2  : Nat → Int32 → xM → Option (xM)
  | 0, _, _ => none
  | n + 1, v1, m => (if (48 : Int32) ≤ v1 then some m else xck 1752 v1 (xck 1752 ((1704 : Int32) + v1) (fM_tries_l2 n (v1 + 1) (xset m 0 ((1704 : Int32) + v1).toNatClampNeg (m.1 0 v1.toNatClampNeg)))))
def fM_tries  (m : xM) : Option (xM) := fM_tries_l2 xfu (0 : Int32) m
set_option maxRecDepth 100000 in
set_option maxHeartbeats 4000000 in
theorem kM_tries_l2 (G : xG)   (z : xM)    : ∀ (n : Nat) (v1 : Int32) (m : xM), xR G yyM_tries (emvm z) 2 [(0, .ref (xa G 85)), (1, .int v1)] [] (z, m) (fM_tries_l2  n v1 m) := by
  intro n
  induction n with
  | zero =>
    intro v1 m
    rw [fM_tries_l2]
    exact xR_none
  | succ n ih =>
    intro v1 m
    rw [fM_tries_l2]
    refine xR_iln 2 1 dM_tries_2 rfl rfl ?_
    refine xR_bp 3 (48 : Int32) dM_tries_3 (by decide) ?_
    refine xR_icge 5 30 dM_tries_5 (by decide) ?_ ?_
    · exact xR_vret 30 rfl rfl dM_tries_30
    · refine xR_aln 8 0 dM_tries_8 rfl rfl ?_
      refine xR_getf 9 xcf7 0 85 (by decide) (by decide) rfl (v := .ref (xa G 86)) rfl fl_RX9_7 dM_tries_9 ?_
      refine xR_sp 12 (1704 : Int32) dM_tries_12 (by decide) ?_
      refine xR_iln 15 1 dM_tries_15 rfl rfl ?_
      refine xR_iadd 16 dM_tries_16 ?_
      refine xR_aln 17 0 dM_tries_17 rfl rfl ?_
      refine xR_getf 18 xcf7 0 85 (by decide) (by decide) rfl (v := .ref (xa G 86)) rfl fl_RX9_7 dM_tries_18 ?_
      refine xR_iln 21 1 dM_tries_21 rfl rfl ?_
      refine xR_iald 22 86 (by decide) rfl dM_tries_22 ?_
      refine xR_iast 23 86 (by decide) rfl (z, (xset m 0 ((1704 : Int32) + v1).toNatClampNeg (m.1 0 v1.toNatClampNeg))) xW_m0 dM_tries_23 ?_
      refine xR_iinc 24 1 (v1 + 1) ([(1, .int (v1 + 1)), (0, .ref (xa G 85))]) dM_tries_24 rfl rfl (by decide) rfl ?_
      refine xR_goto 27 2 dM_tries_27 (by decide) ?_
      exact xR_sub [1, 0] rfl (ih (v1 + 1) (xset m 0 ((1704 : Int32) + v1).toNatClampNeg (m.1 0 v1.toNatClampNeg)))
set_option maxRecDepth 100000 in
set_option maxHeartbeats 4000000 in
theorem kM_tries (G : xG)   (z : xM) (m : xM) : ∀ a, fM_tries  m = some a → xCt G yyM_tries [.ref (xa G 85)] (z, m) (none) (z, a) := by
  refine xR_ct (em := (emvm z)) rfl (Nat.le_of_ble_eq_true rfl) ?_
  show xR G yyM_tries _ 0 [(0, .ref (xa G 85))] [] _ _
  unfold fM_tries
  refine xR_ic 0 (0 : Int32) dM_tries_0 (by decide) ?_
  refine xR_isn 1 ([(1, .int (0 : Int32)), (0, .ref (xa G 85))]) dM_tries_1 rfl (by decide) rfl ?_
  exact xR_sub [1, 0] rfl (kM_tries_l2 G z xfu (0 : Int32) m)
theorem dM_then_0 : decode (xb yyM_then) 0 = .ok (.aload_n 0, 1) := by decide +kernel
theorem dM_then_1 : decode (xb yyM_then) 1 = .ok (.iload_n 1, 1) := by decide +kernel
theorem dM_then_2 : decode (xb yyM_then) 2 = .ok (.invokevirtual 177, 3) := by decide +kernel
theorem dM_then_5 : decode (xb yyM_then) 5 = .ok (.ifCond .eq 22, 3) := by decide +kernel
theorem dM_then_8 : decode (xb yyM_then) 8 = .ok (.iload_n 2, 1) := by decide +kernel
theorem dM_then_9 : decode (xb yyM_then) 9 = .ok (.invokestatic 206, 3) := by decide +kernel
theorem dM_then_12 : decode (xb yyM_then) 12 = .ok (.ifCond .eq 15, 3) := by decide +kernel
theorem dM_then_15 : decode (xb yyM_then) 15 = .ok (.iload_n 3, 1) := by decide +kernel
theorem dM_then_16 : decode (xb yyM_then) 16 = .ok (.i2l, 1) := by decide +kernel
theorem dM_then_17 : decode (xb yyM_then) 17 = .ok (.lconst 0, 1) := by decide +kernel
theorem dM_then_18 : decode (xb yyM_then) 18 = .ok (.ldc2_w 169, 3) := by decide +kernel
theorem dM_then_21 : decode (xb yyM_then) 21 = .ok (.invokestatic 40, 3) := by decide +kernel
theorem dM_then_24 : decode (xb yyM_then) 24 = .ok (.ifCond .ne 10, 3) := by decide +kernel
theorem dM_then_27 : decode (xb yyM_then) 27 = .ok (.aload_n 0, 1) := by decide +kernel
theorem dM_then_28 : decode (xb yyM_then) 28 = .ok (.bipush (-2), 2) := by decide +kernel
theorem dM_then_30 : decode (xb yyM_then) 30 = .ok (.invokevirtual 66, 3) := by decide +kernel
theorem dM_then_33 : decode (xb yyM_then) 33 = .ok (.ireturn, 1) := by decide +kernel
theorem dM_then_34 : decode (xb yyM_then) 34 = .ok (.aload_n 0, 1) := by decide +kernel
theorem dM_then_35 : decode (xb yyM_then) 35 = .ok (.invokevirtual 212, 3) := by decide +kernel
theorem dM_then_38 : decode (xb yyM_then) 38 = .ok (.iconst 0, 1) := by decide +kernel
theorem dM_then_39 : decode (xb yyM_then) 39 = .ok (.istore 4, 2) := by decide +kernel
theorem dM_then_41 : decode (xb yyM_then) 41 = .ok (.iload 4, 2) := by decide +kernel
theorem dM_then_43 : decode (xb yyM_then) 43 = .ok (.iload_n 3, 1) := by decide +kernel
theorem dM_then_44 : decode (xb yyM_then) 44 = .ok (.if_icmp .ge 16, 3) := by decide +kernel
theorem dM_then_47 : decode (xb yyM_then) 47 = .ok (.aload_n 0, 1) := by decide +kernel
theorem dM_then_48 : decode (xb yyM_then) 48 = .ok (.sipush 1704, 3) := by decide +kernel
theorem dM_then_51 : decode (xb yyM_then) 51 = .ok (.invokevirtual 130, 3) := by decide +kernel
theorem dM_then_54 : decode (xb yyM_then) 54 = .ok (.iinc 4 1, 3) := by decide +kernel
theorem dM_then_57 : decode (xb yyM_then) 57 = .ok (.goto (-16), 3) := by decide +kernel
theorem dM_then_60 : decode (xb yyM_then) 60 = .ok (.aload_n 0, 1) := by decide +kernel
theorem dM_then_61 : decode (xb yyM_then) 61 = .ok (.sipush 1704, 3) := by decide +kernel
theorem dM_then_64 : decode (xb yyM_then) 64 = .ok (.iload_n 1, 1) := by decide +kernel
theorem dM_then_65 : decode (xb yyM_then) 65 = .ok (.iload_n 2, 1) := by decide +kernel
theorem dM_then_66 : decode (xb yyM_then) 66 = .ok (.invokevirtual 209, 3) := by decide +kernel
theorem dM_then_69 : decode (xb yyM_then) 69 = .ok (.ireturn, 1) := by decide +kernel
def fM_then_l41  : Nat → Int32 → Int32 → Int32 → Int32 → xM → Option (Int32 × xM)
  | 0, _, _, _, _, _ => none
  | n + 1, v1, v2, v3, v4, m => (if v3 ≤ v4 then (fM_playsIn m (1704 : Int32) v1 v2).bind fun r66 => some (r66, m) else (fM_passes (1704 : Int32) m).bind fun r51 => fM_then_l41 n v1 v2 v3 (v4 + 1) r51)
def fM_then  (v1 : Int32) (v2 : Int32) (v3 : Int32) (m : xM) : Option (Int32 × xM) := (fM_isInstrument m v1).bind fun r2 => (if r2 = 0 then (fM_bad (-2 : Int32) m).bind fun r30 => some (r30.1, r30.2) else (fM_isString v2).bind fun r9 => (if r9 = 0 then (fM_bad (-2 : Int32) m).bind fun r30 => some (r30.1, r30.2) else (fM_in ((v3).toInt64) (0 : Int64) (60 : Int64)).bind fun r21 => (if r21 = 0 then (fM_bad (-2 : Int32) m).bind fun r30 => some (r30.1, r30.2) else (fM_tries m).bind fun r35 => fM_then_l41 xfu v1 v2 v3 (0 : Int32) r35)))
set_option maxRecDepth 100000 in
set_option maxHeartbeats 4000000 in
theorem kM_then_l41 (G : xG)   (z : xM)    : ∀ (n : Nat) (v1 : Int32) (v2 : Int32) (v3 : Int32) (v4 : Int32) (m : xM), xR G yyM_then (emim z) 41 [(0, .ref (xa G 85)), (1, .int v1), (2, .int v2), (3, .int v3), (4, .int v4)] [] (z, m) (fM_then_l41  n v1 v2 v3 v4 m) := by
  intro n
  induction n with
  | zero =>
    intro v1 v2 v3 v4 m
    rw [fM_then_l41]
    exact xR_none
  | succ n ih =>
    intro v1 v2 v3 v4 m
    rw [fM_then_l41]
    refine xR_il 41 4 dM_then_41 rfl ?_
    refine xR_iln 43 3 dM_then_43 rfl rfl ?_
    refine xR_icge 44 60 dM_then_44 (by decide) ?_ ?_
    · refine xR_aln 60 0 dM_then_60 rfl rfl ?_
      refine xR_sp 61 (1704 : Int32) dM_then_61 (by decide) ?_
      refine xR_iln 64 1 dM_then_64 rfl rfl ?_
      refine xR_iln 65 2 dM_then_65 rfl rfl ?_
      refine xR_callVi 66 cv_M_playsIn ml_RX9_209 ⟨Nat.le_of_ble_eq_true rfl, Nat.le_of_ble_eq_true rfl⟩ xcf7 rfl 85 (by decide) rfl [.int (1704 : Int32), .int v1, .int v2] rfl rfl (Nat.le_of_ble_eq_true rfl) dM_then_66 (kM_playsIn G z m (1704 : Int32) v1 v2) (fun r66 => ?_)
      exact xR_iret 69 rfl rfl dM_then_69
    · refine xR_aln 47 0 dM_then_47 rfl rfl ?_
      refine xR_sp 48 (1704 : Int32) dM_then_48 (by decide) ?_
      refine xR_callVvm 51 cv_M_passes ml_RX9_130 ⟨Nat.le_of_ble_eq_true rfl, Nat.le_of_ble_eq_true rfl⟩ xcf7 rfl 85 (by decide) rfl [.int (1704 : Int32)] rfl rfl (Nat.le_of_ble_eq_true rfl) dM_then_51 (kM_passes G z m (1704 : Int32)) (fun r51 => ?_)
      refine xR_iinc 54 4 (v4 + 1) ([(4, .int (v4 + 1)), (0, .ref (xa G 85)), (1, .int v1), (2, .int v2), (3, .int v3)]) dM_then_54 rfl rfl (by decide) rfl ?_
      refine xR_goto 57 41 dM_then_57 (by decide) ?_
      exact xR_sub [1, 2, 3, 4, 0] rfl (ih v1 v2 v3 (v4 + 1) r51)
set_option maxRecDepth 100000 in
set_option maxHeartbeats 4000000 in
theorem kM_then (G : xG)   (z : xM) (m : xM) (v1 : Int32) (v2 : Int32) (v3 : Int32) : ∀ a, fM_then  v1 v2 v3 m = some a → xCt G yyM_then [.ref (xa G 85), .int v1, .int v2, .int v3] (z, m) (some (.int a.1)) (z, a.2) := by
  refine xR_ct (em := (emim z)) rfl (Nat.le_of_ble_eq_true rfl) ?_
  show xR G yyM_then _ 0 [(0, .ref (xa G 85)), (1, .int v1), (2, .int v2), (3, .int v3)] [] _ _
  unfold fM_then
  refine xR_aln 0 0 dM_then_0 rfl rfl ?_
  refine xR_iln 1 1 dM_then_1 rfl rfl ?_
  refine xR_callVi 2 cv_M_isInstrument ml_RX9_177 ⟨Nat.le_of_ble_eq_true rfl, Nat.le_of_ble_eq_true rfl⟩ xcf7 rfl 85 (by decide) rfl [.int v1] rfl rfl (Nat.le_of_ble_eq_true rfl) dM_then_2 (kM_isInstrument G z m v1) (fun r2 => ?_)
  refine xR_ifeq 5 27 dM_then_5 (by decide) ?_ ?_
  · refine xR_aln 27 0 dM_then_27 rfl rfl ?_
    refine xR_bp 28 (-2 : Int32) dM_then_28 (by decide) ?_
    refine xR_callVim 30 cv_M_bad ml_RX9_66 ⟨Nat.le_of_ble_eq_true rfl, Nat.le_of_ble_eq_true rfl⟩ xcf7 rfl 85 (by decide) rfl [.int (-2 : Int32)] rfl rfl (Nat.le_of_ble_eq_true rfl) dM_then_30 (kM_bad G z m (-2 : Int32)) (fun r30 => ?_)
    exact xR_iret 33 rfl rfl dM_then_33
  · refine xR_iln 8 2 dM_then_8 rfl rfl ?_
    refine xR_callSi 9 cs_M_isString ml_RX9_206 ⟨Nat.le_of_ble_eq_true rfl, Nat.le_of_ble_eq_true rfl⟩ [.int v2] rfl rfl (Nat.le_of_ble_eq_true rfl) dM_then_9 (kM_isString G (z, m) v2) (fun r9 => ?_)
    refine xR_ifeq 12 27 dM_then_12 (by decide) ?_ ?_
    · refine xR_aln 27 0 dM_then_27 rfl rfl ?_
      refine xR_bp 28 (-2 : Int32) dM_then_28 (by decide) ?_
      refine xR_callVim 30 cv_M_bad ml_RX9_66 ⟨Nat.le_of_ble_eq_true rfl, Nat.le_of_ble_eq_true rfl⟩ xcf7 rfl 85 (by decide) rfl [.int (-2 : Int32)] rfl rfl (Nat.le_of_ble_eq_true rfl) dM_then_30 (kM_bad G z m (-2 : Int32)) (fun r30 => ?_)
      exact xR_iret 33 rfl rfl dM_then_33
    · refine xR_iln 15 3 dM_then_15 rfl rfl ?_
      refine xR_i2l 16 dM_then_16 ?_
      refine xR_lc 17 (0 : Int64) dM_then_17 (by decide) ?_
      refine xR_ldc2 18 cl_RX9_169 dM_then_18 ?_
      refine xR_callSi 21 cs_M_in ml_RX9_40 ⟨Nat.le_of_ble_eq_true rfl, Nat.le_of_ble_eq_true rfl⟩ [.long ((v3).toInt64), .long (0 : Int64), .long (60 : Int64)] rfl rfl (Nat.le_of_ble_eq_true rfl) dM_then_21 (kM_in G (z, m) ((v3).toInt64) (0 : Int64) (60 : Int64)) (fun r21 => ?_)
      refine xR_ifne 24 34 dM_then_24 (by decide) ?_ ?_
      · refine xR_aln 34 0 dM_then_34 rfl rfl ?_
        refine xR_callVvm 35 cv_M_tries ml_RX9_212 ⟨Nat.le_of_ble_eq_true rfl, Nat.le_of_ble_eq_true rfl⟩ xcf7 rfl 85 (by decide) rfl [] rfl rfl (Nat.le_of_ble_eq_true rfl) dM_then_35 (kM_tries G z m) (fun r35 => ?_)
        refine xR_ic 38 (0 : Int32) dM_then_38 (by decide) ?_
        refine xR_is 39 ([(4, .int (0 : Int32)), (0, .ref (xa G 85)), (1, .int v1), (2, .int v2), (3, .int v3)]) dM_then_39 (by decide) rfl ?_
        exact xR_sub [1, 2, 3, 4, 0] rfl (kM_then_l41 G z xfu v1 v2 v3 (0 : Int32) r35)
      · refine xR_aln 27 0 dM_then_27 rfl rfl ?_
        refine xR_bp 28 (-2 : Int32) dM_then_28 (by decide) ?_
        refine xR_callVim 30 cv_M_bad ml_RX9_66 ⟨Nat.le_of_ble_eq_true rfl, Nat.le_of_ble_eq_true rfl⟩ xcf7 rfl 85 (by decide) rfl [.int (-2 : Int32)] rfl rfl (Nat.le_of_ble_eq_true rfl) dM_then_30 (kM_bad G z m (-2 : Int32)) (fun r30 => ?_)
        exact xR_iret 33 rfl rfl dM_then_33
theorem dM_waits_0 : decode (xb yyM_waits) 0 = .ok (.aload_n 0, 1) := by decide +kernel
theorem dM_waits_1 : decode (xb yyM_waits) 1 = .ok (.iload_n 1, 1) := by decide +kernel
theorem dM_waits_2 : decode (xb yyM_waits) 2 = .ok (.invokevirtual 84, 3) := by decide +kernel
theorem dM_waits_5 : decode (xb yyM_waits) 5 = .ok (.ifCond .eq 22, 3) := by decide +kernel
theorem dM_waits_8 : decode (xb yyM_waits) 8 = .ok (.iload_n 2, 1) := by decide +kernel
theorem dM_waits_9 : decode (xb yyM_waits) 9 = .ok (.invokestatic 206, 3) := by decide +kernel
theorem dM_waits_12 : decode (xb yyM_waits) 12 = .ok (.ifCond .eq 15, 3) := by decide +kernel
theorem dM_waits_15 : decode (xb yyM_waits) 15 = .ok (.iload_n 3, 1) := by decide +kernel
theorem dM_waits_16 : decode (xb yyM_waits) 16 = .ok (.i2l, 1) := by decide +kernel
theorem dM_waits_17 : decode (xb yyM_waits) 17 = .ok (.lconst 1, 1) := by decide +kernel
theorem dM_waits_18 : decode (xb yyM_waits) 18 = .ok (.ldc2_w 169, 3) := by decide +kernel
theorem dM_waits_21 : decode (xb yyM_waits) 21 = .ok (.invokestatic 40, 3) := by decide +kernel
theorem dM_waits_24 : decode (xb yyM_waits) 24 = .ok (.ifCond .ne 10, 3) := by decide +kernel
theorem dM_waits_27 : decode (xb yyM_waits) 27 = .ok (.aload_n 0, 1) := by decide +kernel
theorem dM_waits_28 : decode (xb yyM_waits) 28 = .ok (.bipush (-2), 2) := by decide +kernel
theorem dM_waits_30 : decode (xb yyM_waits) 30 = .ok (.invokevirtual 66, 3) := by decide +kernel
theorem dM_waits_33 : decode (xb yyM_waits) 33 = .ok (.ireturn, 1) := by decide +kernel
theorem dM_waits_34 : decode (xb yyM_waits) 34 = .ok (.aload_n 0, 1) := by decide +kernel
theorem dM_waits_35 : decode (xb yyM_waits) 35 = .ok (.invokevirtual 212, 3) := by decide +kernel
theorem dM_waits_38 : decode (xb yyM_waits) 38 = .ok (.iconst 0, 1) := by decide +kernel
theorem dM_waits_39 : decode (xb yyM_waits) 39 = .ok (.istore 4, 2) := by decide +kernel
theorem dM_waits_41 : decode (xb yyM_waits) 41 = .ok (.iload 4, 2) := by decide +kernel
theorem dM_waits_43 : decode (xb yyM_waits) 43 = .ok (.bipush 60, 2) := by decide +kernel
theorem dM_waits_45 : decode (xb yyM_waits) 45 = .ok (.if_icmp .gt 32, 3) := by decide +kernel
theorem dM_waits_48 : decode (xb yyM_waits) 48 = .ok (.aload_n 0, 1) := by decide +kernel
theorem dM_waits_49 : decode (xb yyM_waits) 49 = .ok (.sipush 1704, 3) := by decide +kernel
theorem dM_waits_52 : decode (xb yyM_waits) 52 = .ok (.iload_n 1, 1) := by decide +kernel
theorem dM_waits_53 : decode (xb yyM_waits) 53 = .ok (.iload_n 2, 1) := by decide +kernel
theorem dM_waits_54 : decode (xb yyM_waits) 54 = .ok (.invokevirtual 199, 3) := by decide +kernel
theorem dM_waits_57 : decode (xb yyM_waits) 57 = .ok (.iload_n 3, 1) := by decide +kernel
theorem dM_waits_58 : decode (xb yyM_waits) 58 = .ok (.if_icmp .lt 6, 3) := by decide +kernel
theorem dM_waits_61 : decode (xb yyM_waits) 61 = .ok (.iload 4, 2) := by decide +kernel
theorem dM_waits_63 : decode (xb yyM_waits) 63 = .ok (.ireturn, 1) := by decide +kernel
theorem dM_waits_64 : decode (xb yyM_waits) 64 = .ok (.aload_n 0, 1) := by decide +kernel
theorem dM_waits_65 : decode (xb yyM_waits) 65 = .ok (.sipush 1704, 3) := by decide +kernel
theorem dM_waits_68 : decode (xb yyM_waits) 68 = .ok (.invokevirtual 130, 3) := by decide +kernel
theorem dM_waits_71 : decode (xb yyM_waits) 71 = .ok (.iinc 4 1, 3) := by decide +kernel
theorem dM_waits_74 : decode (xb yyM_waits) 74 = .ok (.goto (-33), 3) := by decide +kernel
theorem dM_waits_77 : decode (xb yyM_waits) 77 = .ok (.iconst (-1), 1) := by decide +kernel
theorem dM_waits_78 : decode (xb yyM_waits) 78 = .ok (.ireturn, 1) := by decide +kernel
def fM_waits_l41  : Nat → Int32 → Int32 → Int32 → Int32 → xM → Option (Int32 × xM)
  | 0, _, _, _, _, _ => none
  | n + 1, v1, v2, v3, v4, m => (if (60 : Int32) < v4 then some ((-1 : Int32), m) else (fM_soundsIn m (1704 : Int32) v1 v2).bind fun r54 => (if r54 < v3 then (fM_passes (1704 : Int32) m).bind fun r68 => fM_waits_l41 n v1 v2 v3 (v4 + 1) r68 else some (v4, m)))
def fM_waits  (v1 : Int32) (v2 : Int32) (v3 : Int32) (m : xM) : Option (Int32 × xM) := (fM_isBoard m v1).bind fun r2 => (if r2 = 0 then (fM_bad (-2 : Int32) m).bind fun r30 => some (r30.1, r30.2) else (fM_isString v2).bind fun r9 => (if r9 = 0 then (fM_bad (-2 : Int32) m).bind fun r30 => some (r30.1, r30.2) else (fM_in ((v3).toInt64) (1 : Int64) (60 : Int64)).bind fun r21 => (if r21 = 0 then (fM_bad (-2 : Int32) m).bind fun r30 => some (r30.1, r30.2) else (fM_tries m).bind fun r35 => fM_waits_l41 xfu v1 v2 v3 (0 : Int32) r35)))
set_option maxRecDepth 100000 in
set_option maxHeartbeats 4000000 in
theorem kM_waits_l41 (G : xG)   (z : xM)    : ∀ (n : Nat) (v1 : Int32) (v2 : Int32) (v3 : Int32) (v4 : Int32) (m : xM), xR G yyM_waits (emim z) 41 [(0, .ref (xa G 85)), (1, .int v1), (2, .int v2), (3, .int v3), (4, .int v4)] [] (z, m) (fM_waits_l41  n v1 v2 v3 v4 m) := by
  intro n
  induction n with
  | zero =>
    intro v1 v2 v3 v4 m
    rw [fM_waits_l41]
    exact xR_none
  | succ n ih =>
    intro v1 v2 v3 v4 m
    rw [fM_waits_l41]
    refine xR_il 41 4 dM_waits_41 rfl ?_
    refine xR_bp 43 (60 : Int32) dM_waits_43 (by decide) ?_
    refine xR_icgt 45 77 dM_waits_45 (by decide) ?_ ?_
    · refine xR_ic 77 (-1 : Int32) dM_waits_77 (by decide) ?_
      exact xR_iret 78 rfl rfl dM_waits_78
    · refine xR_aln 48 0 dM_waits_48 rfl rfl ?_
      refine xR_sp 49 (1704 : Int32) dM_waits_49 (by decide) ?_
      refine xR_iln 52 1 dM_waits_52 rfl rfl ?_
      refine xR_iln 53 2 dM_waits_53 rfl rfl ?_
      refine xR_callVi 54 cv_M_soundsIn ml_RX9_199 ⟨Nat.le_of_ble_eq_true rfl, Nat.le_of_ble_eq_true rfl⟩ xcf7 rfl 85 (by decide) rfl [.int (1704 : Int32), .int v1, .int v2] rfl rfl (Nat.le_of_ble_eq_true rfl) dM_waits_54 (kM_soundsIn G z m (1704 : Int32) v1 v2) (fun r54 => ?_)
      refine xR_iln 57 3 dM_waits_57 rfl rfl ?_
      refine xR_iclt 58 64 dM_waits_58 (by decide) ?_ ?_
      · refine xR_aln 64 0 dM_waits_64 rfl rfl ?_
        refine xR_sp 65 (1704 : Int32) dM_waits_65 (by decide) ?_
        refine xR_callVvm 68 cv_M_passes ml_RX9_130 ⟨Nat.le_of_ble_eq_true rfl, Nat.le_of_ble_eq_true rfl⟩ xcf7 rfl 85 (by decide) rfl [.int (1704 : Int32)] rfl rfl (Nat.le_of_ble_eq_true rfl) dM_waits_68 (kM_passes G z m (1704 : Int32)) (fun r68 => ?_)
        refine xR_iinc 71 4 (v4 + 1) ([(4, .int (v4 + 1)), (0, .ref (xa G 85)), (1, .int v1), (2, .int v2), (3, .int v3)]) dM_waits_71 rfl rfl (by decide) rfl ?_
        refine xR_goto 74 41 dM_waits_74 (by decide) ?_
        exact xR_sub [1, 2, 3, 4, 0] rfl (ih v1 v2 v3 (v4 + 1) r68)
      · refine xR_il 61 4 dM_waits_61 rfl ?_
        exact xR_iret 63 rfl rfl dM_waits_63
set_option maxRecDepth 100000 in
set_option maxHeartbeats 4000000 in
theorem kM_waits (G : xG)   (z : xM) (m : xM) (v1 : Int32) (v2 : Int32) (v3 : Int32) : ∀ a, fM_waits  v1 v2 v3 m = some a → xCt G yyM_waits [.ref (xa G 85), .int v1, .int v2, .int v3] (z, m) (some (.int a.1)) (z, a.2) := by
  refine xR_ct (em := (emim z)) rfl (Nat.le_of_ble_eq_true rfl) ?_
  show xR G yyM_waits _ 0 [(0, .ref (xa G 85)), (1, .int v1), (2, .int v2), (3, .int v3)] [] _ _
  unfold fM_waits
  refine xR_aln 0 0 dM_waits_0 rfl rfl ?_
  refine xR_iln 1 1 dM_waits_1 rfl rfl ?_
  refine xR_callVi 2 cv_M_isBoard ml_RX9_84 ⟨Nat.le_of_ble_eq_true rfl, Nat.le_of_ble_eq_true rfl⟩ xcf7 rfl 85 (by decide) rfl [.int v1] rfl rfl (Nat.le_of_ble_eq_true rfl) dM_waits_2 (kM_isBoard G z m v1) (fun r2 => ?_)
  refine xR_ifeq 5 27 dM_waits_5 (by decide) ?_ ?_
  · refine xR_aln 27 0 dM_waits_27 rfl rfl ?_
    refine xR_bp 28 (-2 : Int32) dM_waits_28 (by decide) ?_
    refine xR_callVim 30 cv_M_bad ml_RX9_66 ⟨Nat.le_of_ble_eq_true rfl, Nat.le_of_ble_eq_true rfl⟩ xcf7 rfl 85 (by decide) rfl [.int (-2 : Int32)] rfl rfl (Nat.le_of_ble_eq_true rfl) dM_waits_30 (kM_bad G z m (-2 : Int32)) (fun r30 => ?_)
    exact xR_iret 33 rfl rfl dM_waits_33
  · refine xR_iln 8 2 dM_waits_8 rfl rfl ?_
    refine xR_callSi 9 cs_M_isString ml_RX9_206 ⟨Nat.le_of_ble_eq_true rfl, Nat.le_of_ble_eq_true rfl⟩ [.int v2] rfl rfl (Nat.le_of_ble_eq_true rfl) dM_waits_9 (kM_isString G (z, m) v2) (fun r9 => ?_)
    refine xR_ifeq 12 27 dM_waits_12 (by decide) ?_ ?_
    · refine xR_aln 27 0 dM_waits_27 rfl rfl ?_
      refine xR_bp 28 (-2 : Int32) dM_waits_28 (by decide) ?_
      refine xR_callVim 30 cv_M_bad ml_RX9_66 ⟨Nat.le_of_ble_eq_true rfl, Nat.le_of_ble_eq_true rfl⟩ xcf7 rfl 85 (by decide) rfl [.int (-2 : Int32)] rfl rfl (Nat.le_of_ble_eq_true rfl) dM_waits_30 (kM_bad G z m (-2 : Int32)) (fun r30 => ?_)
      exact xR_iret 33 rfl rfl dM_waits_33
    · refine xR_iln 15 3 dM_waits_15 rfl rfl ?_
      refine xR_i2l 16 dM_waits_16 ?_
      refine xR_lc 17 (1 : Int64) dM_waits_17 (by decide) ?_
      refine xR_ldc2 18 cl_RX9_169 dM_waits_18 ?_
      refine xR_callSi 21 cs_M_in ml_RX9_40 ⟨Nat.le_of_ble_eq_true rfl, Nat.le_of_ble_eq_true rfl⟩ [.long ((v3).toInt64), .long (1 : Int64), .long (60 : Int64)] rfl rfl (Nat.le_of_ble_eq_true rfl) dM_waits_21 (kM_in G (z, m) ((v3).toInt64) (1 : Int64) (60 : Int64)) (fun r21 => ?_)
      refine xR_ifne 24 34 dM_waits_24 (by decide) ?_ ?_
      · refine xR_aln 34 0 dM_waits_34 rfl rfl ?_
        refine xR_callVvm 35 cv_M_tries ml_RX9_212 ⟨Nat.le_of_ble_eq_true rfl, Nat.le_of_ble_eq_true rfl⟩ xcf7 rfl 85 (by decide) rfl [] rfl rfl (Nat.le_of_ble_eq_true rfl) dM_waits_35 (kM_tries G z m) (fun r35 => ?_)
        refine xR_ic 38 (0 : Int32) dM_waits_38 (by decide) ?_
        refine xR_is 39 ([(4, .int (0 : Int32)), (0, .ref (xa G 85)), (1, .int v1), (2, .int v2), (3, .int v3)]) dM_waits_39 (by decide) rfl ?_
        exact xR_sub [1, 2, 3, 4, 0] rfl (kM_waits_l41 G z xfu v1 v2 v3 (0 : Int32) r35)
      · refine xR_aln 27 0 dM_waits_27 rfl rfl ?_
        refine xR_bp 28 (-2 : Int32) dM_waits_28 (by decide) ?_
        refine xR_callVim 30 cv_M_bad ml_RX9_66 ⟨Nat.le_of_ble_eq_true rfl, Nat.le_of_ble_eq_true rfl⟩ xcf7 rfl 85 (by decide) rfl [.int (-2 : Int32)] rfl rfl (Nat.le_of_ble_eq_true rfl) dM_waits_30 (kM_bad G z m (-2 : Int32)) (fun r30 => ?_)
        exact xR_iret 33 rfl rfl dM_waits_33
theorem dM_dry_0 : decode (xb yyM_dry) 0 = .ok (.aload_n 0, 1) := by decide +kernel
theorem dM_dry_1 : decode (xb yyM_dry) 1 = .ok (.iload_n 1, 1) := by decide +kernel
theorem dM_dry_2 : decode (xb yyM_dry) 2 = .ok (.invokevirtual 177, 3) := by decide +kernel
theorem dM_dry_5 : decode (xb yyM_dry) 5 = .ok (.ifCond .eq 22, 3) := by decide +kernel
theorem dM_dry_8 : decode (xb yyM_dry) 8 = .ok (.iload_n 2, 1) := by decide +kernel
theorem dM_dry_9 : decode (xb yyM_dry) 9 = .ok (.invokestatic 206, 3) := by decide +kernel
theorem dM_dry_12 : decode (xb yyM_dry) 12 = .ok (.ifCond .eq 15, 3) := by decide +kernel
theorem dM_dry_15 : decode (xb yyM_dry) 15 = .ok (.iload_n 3, 1) := by decide +kernel
theorem dM_dry_16 : decode (xb yyM_dry) 16 = .ok (.i2l, 1) := by decide +kernel
theorem dM_dry_17 : decode (xb yyM_dry) 17 = .ok (.lconst 1, 1) := by decide +kernel
theorem dM_dry_18 : decode (xb yyM_dry) 18 = .ok (.ldc2_w 215, 3) := by decide +kernel
theorem dM_dry_21 : decode (xb yyM_dry) 21 = .ok (.invokestatic 40, 3) := by decide +kernel
theorem dM_dry_24 : decode (xb yyM_dry) 24 = .ok (.ifCond .ne 10, 3) := by decide +kernel
theorem dM_dry_27 : decode (xb yyM_dry) 27 = .ok (.aload_n 0, 1) := by decide +kernel
theorem dM_dry_28 : decode (xb yyM_dry) 28 = .ok (.bipush (-2), 2) := by decide +kernel
theorem dM_dry_30 : decode (xb yyM_dry) 30 = .ok (.invokevirtual 66, 3) := by decide +kernel
theorem dM_dry_33 : decode (xb yyM_dry) 33 = .ok (.ireturn, 1) := by decide +kernel
theorem dM_dry_34 : decode (xb yyM_dry) 34 = .ok (.iconst 0, 1) := by decide +kernel
theorem dM_dry_35 : decode (xb yyM_dry) 35 = .ok (.istore 4, 2) := by decide +kernel
theorem dM_dry_37 : decode (xb yyM_dry) 37 = .ok (.iload 4, 2) := by decide +kernel
theorem dM_dry_39 : decode (xb yyM_dry) 39 = .ok (.bipush 10, 2) := by decide +kernel
theorem dM_dry_41 : decode (xb yyM_dry) 41 = .ok (.if_icmp .ge 102, 3) := by decide +kernel
theorem dM_dry_44 : decode (xb yyM_dry) 44 = .ok (.aload_n 0, 1) := by decide +kernel
theorem dM_dry_45 : decode (xb yyM_dry) 45 = .ok (.invokevirtual 212, 3) := by decide +kernel
theorem dM_dry_48 : decode (xb yyM_dry) 48 = .ok (.iconst 0, 1) := by decide +kernel
theorem dM_dry_49 : decode (xb yyM_dry) 49 = .ok (.istore 5, 2) := by decide +kernel
theorem dM_dry_51 : decode (xb yyM_dry) 51 = .ok (.iload 5, 2) := by decide +kernel
theorem dM_dry_53 : decode (xb yyM_dry) 53 = .ok (.aload_n 0, 1) := by decide +kernel
theorem dM_dry_54 : decode (xb yyM_dry) 54 = .ok (.getfield 7, 3) := by decide +kernel
theorem dM_dry_57 : decode (xb yyM_dry) 57 = .ok (.iconst 0, 1) := by decide +kernel
theorem dM_dry_58 : decode (xb yyM_dry) 58 = .ok (.iaload, 1) := by decide +kernel
theorem dM_dry_59 : decode (xb yyM_dry) 59 = .ok (.if_icmp .ge 62, 3) := by decide +kernel
theorem dM_dry_62 : decode (xb yyM_dry) 62 = .ok (.aload_n 0, 1) := by decide +kernel
theorem dM_dry_63 : decode (xb yyM_dry) 63 = .ok (.getfield 7, 3) := by decide +kernel
theorem dM_dry_66 : decode (xb yyM_dry) 66 = .ok (.sipush 1724, 3) := by decide +kernel
theorem dM_dry_69 : decode (xb yyM_dry) 69 = .ok (.iload 5, 2) := by decide +kernel
theorem dM_dry_71 : decode (xb yyM_dry) 71 = .ok (.iadd, 1) := by decide +kernel
theorem dM_dry_72 : decode (xb yyM_dry) 72 = .ok (.aload_n 0, 1) := by decide +kernel
theorem dM_dry_73 : decode (xb yyM_dry) 73 = .ok (.getfield 7, 3) := by decide +kernel
theorem dM_dry_76 : decode (xb yyM_dry) 76 = .ok (.bipush 38, 2) := by decide +kernel
theorem dM_dry_78 : decode (xb yyM_dry) 78 = .ok (.iload 5, 2) := by decide +kernel
theorem dM_dry_80 : decode (xb yyM_dry) 80 = .ok (.iadd, 1) := by decide +kernel
theorem dM_dry_81 : decode (xb yyM_dry) 81 = .ok (.iaload, 1) := by decide +kernel
theorem dM_dry_82 : decode (xb yyM_dry) 82 = .ok (.iload_n 1, 1) := by decide +kernel
theorem dM_dry_83 : decode (xb yyM_dry) 83 = .ok (.if_icmp .ne 21, 3) := by decide +kernel
theorem dM_dry_86 : decode (xb yyM_dry) 86 = .ok (.aload_n 0, 1) := by decide +kernel
theorem dM_dry_87 : decode (xb yyM_dry) 87 = .ok (.getfield 7, 3) := by decide +kernel
theorem dM_dry_90 : decode (xb yyM_dry) 90 = .ok (.bipush 20, 2) := by decide +kernel
theorem dM_dry_92 : decode (xb yyM_dry) 92 = .ok (.iload 5, 2) := by decide +kernel
theorem dM_dry_94 : decode (xb yyM_dry) 94 = .ok (.iadd, 1) := by decide +kernel
theorem dM_dry_95 : decode (xb yyM_dry) 95 = .ok (.iaload, 1) := by decide +kernel
theorem dM_dry_96 : decode (xb yyM_dry) 96 = .ok (.iload 4, 2) := by decide +kernel
theorem dM_dry_98 : decode (xb yyM_dry) 98 = .ok (.invokestatic 183, 3) := by decide +kernel
theorem dM_dry_101 : decode (xb yyM_dry) 101 = .ok (.goto 13, 3) := by decide +kernel
theorem dM_dry_104 : decode (xb yyM_dry) 104 = .ok (.aload_n 0, 1) := by decide +kernel
theorem dM_dry_105 : decode (xb yyM_dry) 105 = .ok (.getfield 7, 3) := by decide +kernel
theorem dM_dry_108 : decode (xb yyM_dry) 108 = .ok (.bipush 20, 2) := by decide +kernel
theorem dM_dry_110 : decode (xb yyM_dry) 110 = .ok (.iload 5, 2) := by decide +kernel
theorem dM_dry_112 : decode (xb yyM_dry) 112 = .ok (.iadd, 1) := by decide +kernel
theorem dM_dry_113 : decode (xb yyM_dry) 113 = .ok (.iaload, 1) := by decide +kernel
theorem dM_dry_114 : decode (xb yyM_dry) 114 = .ok (.iastore, 1) := by decide +kernel
theorem dM_dry_115 : decode (xb yyM_dry) 115 = .ok (.iinc 5 1, 3) := by decide +kernel
theorem dM_dry_118 : decode (xb yyM_dry) 118 = .ok (.goto (-67), 3) := by decide +kernel
theorem dM_dry_121 : decode (xb yyM_dry) 121 = .ok (.aload_n 0, 1) := by decide +kernel
theorem dM_dry_122 : decode (xb yyM_dry) 122 = .ok (.sipush 1704, 3) := by decide +kernel
theorem dM_dry_125 : decode (xb yyM_dry) 125 = .ok (.iload_n 1, 1) := by decide +kernel
theorem dM_dry_126 : decode (xb yyM_dry) 126 = .ok (.iload_n 2, 1) := by decide +kernel
theorem dM_dry_127 : decode (xb yyM_dry) 127 = .ok (.invokevirtual 209, 3) := by decide +kernel
theorem dM_dry_130 : decode (xb yyM_dry) 130 = .ok (.iload_n 3, 1) := by decide +kernel
theorem dM_dry_131 : decode (xb yyM_dry) 131 = .ok (.if_icmp .lt 6, 3) := by decide +kernel
theorem dM_dry_134 : decode (xb yyM_dry) 134 = .ok (.iload 4, 2) := by decide +kernel
theorem dM_dry_136 : decode (xb yyM_dry) 136 = .ok (.ireturn, 1) := by decide +kernel
theorem dM_dry_137 : decode (xb yyM_dry) 137 = .ok (.iinc 4 1, 3) := by decide +kernel
theorem dM_dry_140 : decode (xb yyM_dry) 140 = .ok (.goto (-103), 3) := by decide +kernel
theorem dM_dry_143 : decode (xb yyM_dry) 143 = .ok (.iconst (-1), 1) := by decide +kernel
theorem dM_dry_144 : decode (xb yyM_dry) 144 = .ok (.ireturn, 1) := by decide +kernel
def fM_dry_b114 (k37 : Int32 → Int32 → Int32 → Int32 → xM → Option (Int32 × xM)) (k51 : Int32 → Int32 → Int32 → Int32 → Int32 → xM → Option (Int32 × xM)) (v1 : Int32) (v2 : Int32) (v3 : Int32) (v4 : Int32) (v5 : Int32) (s0 : Int32) (s1 : Int32) (m : xM) : Option (Int32 × xM) := xck 1752 s1 (k51 v1 v2 v3 v4 (v5 + 1) (xset m 0 s1.toNatClampNeg s0))
def fM_dry_l51 (k37 : Int32 → Int32 → Int32 → Int32 → xM → Option (Int32 × xM)) : Nat → Int32 → Int32 → Int32 → Int32 → Int32 → xM → Option (Int32 × xM)
  | 0, _, _, _, _, _, _ => none
  | n + 1, v1, v2, v3, v4, v5, m => xck 1752 (0 : Int32) ((if (m.1 0 (0 : Int32).toNatClampNeg) ≤ v5 then (fM_playsIn m (1704 : Int32) v1 v2).bind fun r127 => (if r127 < v3 then k37 v1 v2 v3 (v4 + 1) m else some (v4, m)) else xck 1752 ((38 : Int32) + v5) ((if (m.1 0 ((38 : Int32) + v5).toNatClampNeg) = v1 then xck 1752 ((20 : Int32) + v5) ((fM_less (m.1 0 ((20 : Int32) + v5).toNatClampNeg) v4).bind fun r98 => fM_dry_b114 k37 (fM_dry_l51 k37 n) v1 v2 v3 v4 v5 r98 ((1724 : Int32) + v5) m) else xck 1752 ((20 : Int32) + v5) (fM_dry_b114 k37 (fM_dry_l51 k37 n) v1 v2 v3 v4 v5 (m.1 0 ((20 : Int32) + v5).toNatClampNeg) ((1724 : Int32) + v5) m)))))
def fM_dry_l37  : Nat → Int32 → Int32 → Int32 → Int32 → xM → Option (Int32 × xM)
  | 0, _, _, _, _, _ => none
  | n + 1, v1, v2, v3, v4, m => (if (10 : Int32) ≤ v4 then some ((-1 : Int32), m) else (fM_tries m).bind fun r45 => fM_dry_l51 (fM_dry_l37 n) xfu v1 v2 v3 v4 (0 : Int32) r45)
def fM_dry  (v1 : Int32) (v2 : Int32) (v3 : Int32) (m : xM) : Option (Int32 × xM) := (fM_isInstrument m v1).bind fun r2 => (if r2 = 0 then (fM_bad (-2 : Int32) m).bind fun r30 => some (r30.1, r30.2) else (fM_isString v2).bind fun r9 => (if r9 = 0 then (fM_bad (-2 : Int32) m).bind fun r30 => some (r30.1, r30.2) else (fM_in ((v3).toInt64) (1 : Int64) (200 : Int64)).bind fun r21 => (if r21 = 0 then (fM_bad (-2 : Int32) m).bind fun r30 => some (r30.1, r30.2) else fM_dry_l37 xfu v1 v2 v3 (0 : Int32) m)))
set_option maxRecDepth 100000 in
set_option maxHeartbeats 4000000 in
theorem kM_dry_b114 (G : xG)   (z : xM)  (k37 : Int32 → Int32 → Int32 → Int32 → xM → Option (Int32 × xM)) (k51 : Int32 → Int32 → Int32 → Int32 → Int32 → xM → Option (Int32 × xM)) (hk37 : ∀ (v1 : Int32) (v2 : Int32) (v3 : Int32) (v4 : Int32) (m : xM), xR G yyM_dry (emim z) 37 [(0, .ref (xa G 85)), (1, .int v1), (2, .int v2), (3, .int v3), (4, .int v4)] [] (z, m) (k37 v1 v2 v3 v4 m)) (hk51 : ∀ (v1 : Int32) (v2 : Int32) (v3 : Int32) (v4 : Int32) (v5 : Int32) (m : xM), xR G yyM_dry (emim z) 51 [(0, .ref (xa G 85)), (1, .int v1), (2, .int v2), (3, .int v3), (4, .int v4), (5, .int v5)] [] (z, m) (k51 v1 v2 v3 v4 v5 m)) (v1 : Int32) (v2 : Int32) (v3 : Int32) (v4 : Int32) (v5 : Int32) (s0 : Int32) (s1 : Int32) (m : xM) : xR G yyM_dry (emim z) 114 [(0, .ref (xa G 85)), (1, .int v1), (2, .int v2), (3, .int v3), (4, .int v4), (5, .int v5)] [.int s0, .int s1, .ref (xa G 86)] (z, m) (fM_dry_b114 k37 k51 v1 v2 v3 v4 v5 s0 s1 m) := by
  unfold fM_dry_b114
  refine xR_iast 114 86 (by decide) rfl (z, (xset m 0 s1.toNatClampNeg s0)) xW_m0 dM_dry_114 ?_
  refine xR_iinc 115 5 (v5 + 1) ([(5, .int (v5 + 1)), (0, .ref (xa G 85)), (1, .int v1), (2, .int v2), (3, .int v3), (4, .int v4)]) dM_dry_115 rfl rfl (by decide) rfl ?_
  refine xR_goto 118 51 dM_dry_118 (by decide) ?_
  exact xR_sub [1, 2, 3, 4, 5, 0] rfl (hk51 v1 v2 v3 v4 (v5 + 1) (xset m 0 s1.toNatClampNeg s0))
set_option maxRecDepth 100000 in
set_option maxHeartbeats 4000000 in
theorem kM_dry_l51 (G : xG)   (z : xM)  (k37 : Int32 → Int32 → Int32 → Int32 → xM → Option (Int32 × xM)) (hk37 : ∀ (v1 : Int32) (v2 : Int32) (v3 : Int32) (v4 : Int32) (m : xM), xR G yyM_dry (emim z) 37 [(0, .ref (xa G 85)), (1, .int v1), (2, .int v2), (3, .int v3), (4, .int v4)] [] (z, m) (k37 v1 v2 v3 v4 m)) : ∀ (n : Nat) (v1 : Int32) (v2 : Int32) (v3 : Int32) (v4 : Int32) (v5 : Int32) (m : xM), xR G yyM_dry (emim z) 51 [(0, .ref (xa G 85)), (1, .int v1), (2, .int v2), (3, .int v3), (4, .int v4), (5, .int v5)] [] (z, m) (fM_dry_l51 k37 n v1 v2 v3 v4 v5 m) := by
  intro n
  induction n with
  | zero =>
    intro v1 v2 v3 v4 v5 m
    rw [fM_dry_l51]
    exact xR_none
  | succ n ih =>
    intro v1 v2 v3 v4 v5 m
    rw [fM_dry_l51]
    refine xR_il 51 5 dM_dry_51 rfl ?_
    refine xR_aln 53 0 dM_dry_53 rfl rfl ?_
    refine xR_getf 54 xcf7 0 85 (by decide) (by decide) rfl (v := .ref (xa G 86)) rfl fl_RX9_7 dM_dry_54 ?_
    refine xR_ic 57 (0 : Int32) dM_dry_57 (by decide) ?_
    refine xR_iald 58 86 (by decide) rfl dM_dry_58 ?_
    refine xR_icge 59 121 dM_dry_59 (by decide) ?_ ?_
    · refine xR_aln 121 0 dM_dry_121 rfl rfl ?_
      refine xR_sp 122 (1704 : Int32) dM_dry_122 (by decide) ?_
      refine xR_iln 125 1 dM_dry_125 rfl rfl ?_
      refine xR_iln 126 2 dM_dry_126 rfl rfl ?_
      refine xR_callVi 127 cv_M_playsIn ml_RX9_209 ⟨Nat.le_of_ble_eq_true rfl, Nat.le_of_ble_eq_true rfl⟩ xcf7 rfl 85 (by decide) rfl [.int (1704 : Int32), .int v1, .int v2] rfl rfl (Nat.le_of_ble_eq_true rfl) dM_dry_127 (kM_playsIn G z m (1704 : Int32) v1 v2) (fun r127 => ?_)
      refine xR_iln 130 3 dM_dry_130 rfl rfl ?_
      refine xR_iclt 131 137 dM_dry_131 (by decide) ?_ ?_
      · refine xR_iinc 137 4 (v4 + 1) ([(4, .int (v4 + 1)), (0, .ref (xa G 85)), (1, .int v1), (2, .int v2), (3, .int v3), (5, .int v5)]) dM_dry_137 rfl rfl (by decide) rfl ?_
        refine xR_goto 140 37 dM_dry_140 (by decide) ?_
        exact xR_sub [1, 2, 3, 4, 0] rfl (hk37 v1 v2 v3 (v4 + 1) m)
      · refine xR_il 134 4 dM_dry_134 rfl ?_
        exact xR_iret 136 rfl rfl dM_dry_136
    · refine xR_aln 62 0 dM_dry_62 rfl rfl ?_
      refine xR_getf 63 xcf7 0 85 (by decide) (by decide) rfl (v := .ref (xa G 86)) rfl fl_RX9_7 dM_dry_63 ?_
      refine xR_sp 66 (1724 : Int32) dM_dry_66 (by decide) ?_
      refine xR_il 69 5 dM_dry_69 rfl ?_
      refine xR_iadd 71 dM_dry_71 ?_
      refine xR_aln 72 0 dM_dry_72 rfl rfl ?_
      refine xR_getf 73 xcf7 0 85 (by decide) (by decide) rfl (v := .ref (xa G 86)) rfl fl_RX9_7 dM_dry_73 ?_
      refine xR_bp 76 (38 : Int32) dM_dry_76 (by decide) ?_
      refine xR_il 78 5 dM_dry_78 rfl ?_
      refine xR_iadd 80 dM_dry_80 ?_
      refine xR_iald 81 86 (by decide) rfl dM_dry_81 ?_
      refine xR_iln 82 1 dM_dry_82 rfl rfl ?_
      refine xR_icne 83 104 dM_dry_83 (by decide) ?_ ?_
      · refine xR_aln 104 0 dM_dry_104 rfl rfl ?_
        refine xR_getf 105 xcf7 0 85 (by decide) (by decide) rfl (v := .ref (xa G 86)) rfl fl_RX9_7 dM_dry_105 ?_
        refine xR_bp 108 (20 : Int32) dM_dry_108 (by decide) ?_
        refine xR_il 110 5 dM_dry_110 rfl ?_
        refine xR_iadd 112 dM_dry_112 ?_
        refine xR_iald 113 86 (by decide) rfl dM_dry_113 ?_
        exact kM_dry_b114 G z k37 (fM_dry_l51 k37 n) hk37 ih v1 v2 v3 v4 v5 (m.1 0 ((20 : Int32) + v5).toNatClampNeg) ((1724 : Int32) + v5) m
      · refine xR_aln 86 0 dM_dry_86 rfl rfl ?_
        refine xR_getf 87 xcf7 0 85 (by decide) (by decide) rfl (v := .ref (xa G 86)) rfl fl_RX9_7 dM_dry_87 ?_
        refine xR_bp 90 (20 : Int32) dM_dry_90 (by decide) ?_
        refine xR_il 92 5 dM_dry_92 rfl ?_
        refine xR_iadd 94 dM_dry_94 ?_
        refine xR_iald 95 86 (by decide) rfl dM_dry_95 ?_
        refine xR_il 96 4 dM_dry_96 rfl ?_
        refine xR_callSi 98 cs_M_less ml_RX9_183 ⟨Nat.le_of_ble_eq_true rfl, Nat.le_of_ble_eq_true rfl⟩ [.int (m.1 0 ((20 : Int32) + v5).toNatClampNeg), .int v4] rfl rfl (Nat.le_of_ble_eq_true rfl) dM_dry_98 (kM_less G (z, m) (m.1 0 ((20 : Int32) + v5).toNatClampNeg) v4) (fun r98 => ?_)
        refine xR_goto 101 114 dM_dry_101 (by decide) ?_
        exact kM_dry_b114 G z k37 (fM_dry_l51 k37 n) hk37 ih v1 v2 v3 v4 v5 r98 ((1724 : Int32) + v5) m
set_option maxRecDepth 100000 in
set_option maxHeartbeats 4000000 in
theorem kM_dry_l37 (G : xG)   (z : xM)    : ∀ (n : Nat) (v1 : Int32) (v2 : Int32) (v3 : Int32) (v4 : Int32) (m : xM), xR G yyM_dry (emim z) 37 [(0, .ref (xa G 85)), (1, .int v1), (2, .int v2), (3, .int v3), (4, .int v4)] [] (z, m) (fM_dry_l37  n v1 v2 v3 v4 m) := by
  intro n
  induction n with
  | zero =>
    intro v1 v2 v3 v4 m
    rw [fM_dry_l37]
    exact xR_none
  | succ n ih =>
    intro v1 v2 v3 v4 m
    rw [fM_dry_l37]
    refine xR_il 37 4 dM_dry_37 rfl ?_
    refine xR_bp 39 (10 : Int32) dM_dry_39 (by decide) ?_
    refine xR_icge 41 143 dM_dry_41 (by decide) ?_ ?_
    · refine xR_ic 143 (-1 : Int32) dM_dry_143 (by decide) ?_
      exact xR_iret 144 rfl rfl dM_dry_144
    · refine xR_aln 44 0 dM_dry_44 rfl rfl ?_
      refine xR_callVvm 45 cv_M_tries ml_RX9_212 ⟨Nat.le_of_ble_eq_true rfl, Nat.le_of_ble_eq_true rfl⟩ xcf7 rfl 85 (by decide) rfl [] rfl rfl (Nat.le_of_ble_eq_true rfl) dM_dry_45 (kM_tries G z m) (fun r45 => ?_)
      refine xR_ic 48 (0 : Int32) dM_dry_48 (by decide) ?_
      refine xR_is 49 ([(5, .int (0 : Int32)), (0, .ref (xa G 85)), (1, .int v1), (2, .int v2), (3, .int v3), (4, .int v4)]) dM_dry_49 (by decide) rfl ?_
      exact xR_sub [1, 2, 3, 4, 5, 0] rfl (kM_dry_l51 G z (fM_dry_l37 n) ih xfu v1 v2 v3 v4 (0 : Int32) r45)
set_option maxRecDepth 100000 in
set_option maxHeartbeats 4000000 in
theorem kM_dry (G : xG)   (z : xM) (m : xM) (v1 : Int32) (v2 : Int32) (v3 : Int32) : ∀ a, fM_dry  v1 v2 v3 m = some a → xCt G yyM_dry [.ref (xa G 85), .int v1, .int v2, .int v3] (z, m) (some (.int a.1)) (z, a.2) := by
  refine xR_ct (em := (emim z)) rfl (Nat.le_of_ble_eq_true rfl) ?_
  show xR G yyM_dry _ 0 [(0, .ref (xa G 85)), (1, .int v1), (2, .int v2), (3, .int v3)] [] _ _
  unfold fM_dry
  refine xR_aln 0 0 dM_dry_0 rfl rfl ?_
  refine xR_iln 1 1 dM_dry_1 rfl rfl ?_
  refine xR_callVi 2 cv_M_isInstrument ml_RX9_177 ⟨Nat.le_of_ble_eq_true rfl, Nat.le_of_ble_eq_true rfl⟩ xcf7 rfl 85 (by decide) rfl [.int v1] rfl rfl (Nat.le_of_ble_eq_true rfl) dM_dry_2 (kM_isInstrument G z m v1) (fun r2 => ?_)
  refine xR_ifeq 5 27 dM_dry_5 (by decide) ?_ ?_
  · refine xR_aln 27 0 dM_dry_27 rfl rfl ?_
    refine xR_bp 28 (-2 : Int32) dM_dry_28 (by decide) ?_
    refine xR_callVim 30 cv_M_bad ml_RX9_66 ⟨Nat.le_of_ble_eq_true rfl, Nat.le_of_ble_eq_true rfl⟩ xcf7 rfl 85 (by decide) rfl [.int (-2 : Int32)] rfl rfl (Nat.le_of_ble_eq_true rfl) dM_dry_30 (kM_bad G z m (-2 : Int32)) (fun r30 => ?_)
    exact xR_iret 33 rfl rfl dM_dry_33
  · refine xR_iln 8 2 dM_dry_8 rfl rfl ?_
    refine xR_callSi 9 cs_M_isString ml_RX9_206 ⟨Nat.le_of_ble_eq_true rfl, Nat.le_of_ble_eq_true rfl⟩ [.int v2] rfl rfl (Nat.le_of_ble_eq_true rfl) dM_dry_9 (kM_isString G (z, m) v2) (fun r9 => ?_)
    refine xR_ifeq 12 27 dM_dry_12 (by decide) ?_ ?_
    · refine xR_aln 27 0 dM_dry_27 rfl rfl ?_
      refine xR_bp 28 (-2 : Int32) dM_dry_28 (by decide) ?_
      refine xR_callVim 30 cv_M_bad ml_RX9_66 ⟨Nat.le_of_ble_eq_true rfl, Nat.le_of_ble_eq_true rfl⟩ xcf7 rfl 85 (by decide) rfl [.int (-2 : Int32)] rfl rfl (Nat.le_of_ble_eq_true rfl) dM_dry_30 (kM_bad G z m (-2 : Int32)) (fun r30 => ?_)
      exact xR_iret 33 rfl rfl dM_dry_33
    · refine xR_iln 15 3 dM_dry_15 rfl rfl ?_
      refine xR_i2l 16 dM_dry_16 ?_
      refine xR_lc 17 (1 : Int64) dM_dry_17 (by decide) ?_
      refine xR_ldc2 18 cl_RX9_215 dM_dry_18 ?_
      refine xR_callSi 21 cs_M_in ml_RX9_40 ⟨Nat.le_of_ble_eq_true rfl, Nat.le_of_ble_eq_true rfl⟩ [.long ((v3).toInt64), .long (1 : Int64), .long (200 : Int64)] rfl rfl (Nat.le_of_ble_eq_true rfl) dM_dry_21 (kM_in G (z, m) ((v3).toInt64) (1 : Int64) (200 : Int64)) (fun r21 => ?_)
      refine xR_ifne 24 34 dM_dry_24 (by decide) ?_ ?_
      · refine xR_ic 34 (0 : Int32) dM_dry_34 (by decide) ?_
        refine xR_is 35 ([(4, .int (0 : Int32)), (0, .ref (xa G 85)), (1, .int v1), (2, .int v2), (3, .int v3)]) dM_dry_35 (by decide) rfl ?_
        exact xR_sub [1, 2, 3, 4, 0] rfl (kM_dry_l37 G z xfu v1 v2 v3 (0 : Int32) m)
      · refine xR_aln 27 0 dM_dry_27 rfl rfl ?_
        refine xR_bp 28 (-2 : Int32) dM_dry_28 (by decide) ?_
        refine xR_callVim 30 cv_M_bad ml_RX9_66 ⟨Nat.le_of_ble_eq_true rfl, Nat.le_of_ble_eq_true rfl⟩ xcf7 rfl 85 (by decide) rfl [.int (-2 : Int32)] rfl rfl (Nat.le_of_ble_eq_true rfl) dM_dry_30 (kM_bad G z m (-2 : Int32)) (fun r30 => ?_)
        exact xR_iret 33 rfl rfl dM_dry_33
theorem dM_freeOnes_0 : decode (xb yyM_freeOnes) 0 = .ok (.iconst 0, 1) := by decide +kernel
theorem dM_freeOnes_1 : decode (xb yyM_freeOnes) 1 = .ok (.istore_n 1, 1) := by decide +kernel
theorem dM_freeOnes_2 : decode (xb yyM_freeOnes) 2 = .ok (.iconst 0, 1) := by decide +kernel
theorem dM_freeOnes_3 : decode (xb yyM_freeOnes) 3 = .ok (.istore_n 2, 1) := by decide +kernel
theorem dM_freeOnes_4 : decode (xb yyM_freeOnes) 4 = .ok (.iload_n 2, 1) := by decide +kernel
theorem dM_freeOnes_5 : decode (xb yyM_freeOnes) 5 = .ok (.aload_n 0, 1) := by decide +kernel
theorem dM_freeOnes_6 : decode (xb yyM_freeOnes) 6 = .ok (.getfield 7, 3) := by decide +kernel
theorem dM_freeOnes_9 : decode (xb yyM_freeOnes) 9 = .ok (.iconst 0, 1) := by decide +kernel
theorem dM_freeOnes_10 : decode (xb yyM_freeOnes) 10 = .ok (.iaload, 1) := by decide +kernel
theorem dM_freeOnes_11 : decode (xb yyM_freeOnes) 11 = .ok (.if_icmp .ge 32, 3) := by decide +kernel
theorem dM_freeOnes_14 : decode (xb yyM_freeOnes) 14 = .ok (.iload_n 1, 1) := by decide +kernel
theorem dM_freeOnes_15 : decode (xb yyM_freeOnes) 15 = .ok (.aload_n 0, 1) := by decide +kernel
theorem dM_freeOnes_16 : decode (xb yyM_freeOnes) 16 = .ok (.getfield 7, 3) := by decide +kernel
theorem dM_freeOnes_19 : decode (xb yyM_freeOnes) 19 = .ok (.bipush 38, 2) := by decide +kernel
theorem dM_freeOnes_21 : decode (xb yyM_freeOnes) 21 = .ok (.iload_n 2, 1) := by decide +kernel
theorem dM_freeOnes_22 : decode (xb yyM_freeOnes) 22 = .ok (.iadd, 1) := by decide +kernel
theorem dM_freeOnes_23 : decode (xb yyM_freeOnes) 23 = .ok (.iaload, 1) := by decide +kernel
theorem dM_freeOnes_24 : decode (xb yyM_freeOnes) 24 = .ok (.iconst (-1), 1) := by decide +kernel
theorem dM_freeOnes_25 : decode (xb yyM_freeOnes) 25 = .ok (.if_icmp .ne 9, 3) := by decide +kernel
theorem dM_freeOnes_28 : decode (xb yyM_freeOnes) 28 = .ok (.iconst 1, 1) := by decide +kernel
theorem dM_freeOnes_29 : decode (xb yyM_freeOnes) 29 = .ok (.iload_n 2, 1) := by decide +kernel
theorem dM_freeOnes_30 : decode (xb yyM_freeOnes) 30 = .ok (.ishl, 1) := by decide +kernel
theorem dM_freeOnes_31 : decode (xb yyM_freeOnes) 31 = .ok (.goto 4, 3) := by decide +kernel
theorem dM_freeOnes_34 : decode (xb yyM_freeOnes) 34 = .ok (.iconst 0, 1) := by decide +kernel
theorem dM_freeOnes_35 : decode (xb yyM_freeOnes) 35 = .ok (.ior, 1) := by decide +kernel
theorem dM_freeOnes_36 : decode (xb yyM_freeOnes) 36 = .ok (.istore_n 1, 1) := by decide +kernel
theorem dM_freeOnes_37 : decode (xb yyM_freeOnes) 37 = .ok (.iinc 2 1, 3) := by decide +kernel
theorem dM_freeOnes_40 : decode (xb yyM_freeOnes) 40 = .ok (.goto (-36), 3) := by decide +kernel
theorem dM_freeOnes_43 : decode (xb yyM_freeOnes) 43 = .ok (.iload_n 1, 1) := by decide +kernel
theorem dM_freeOnes_44 : decode (xb yyM_freeOnes) 44 = .ok (.ireturn, 1) := by decide +kernel
def fM_freeOnes_b35  (m : xM) (k4 : Int32 → Int32 → Option (Int32)) (v2 : Int32) (s0 : Int32) (s1 : Int32) : Option (Int32) := k4 (s1 ||| s0) (v2 + 1)
def fM_freeOnes_l4  (m : xM) : Nat → Int32 → Int32 → Option (Int32)
  | 0, _, _ => none
  | n + 1, v1, v2 => xck 1752 (0 : Int32) ((if (m.1 0 (0 : Int32).toNatClampNeg) ≤ v2 then some v1 else xck 1752 ((38 : Int32) + v2) ((if (m.1 0 ((38 : Int32) + v2).toNatClampNeg) = (-1 : Int32) then fM_freeOnes_b35 m (fM_freeOnes_l4 m n) v2 ((1 : Int32) <<< (v2 &&& 31)) v1 else fM_freeOnes_b35 m (fM_freeOnes_l4 m n) v2 (0 : Int32) v1))))
def fM_freeOnes  (m : xM) : Option (Int32) := fM_freeOnes_l4 m xfu (0 : Int32) (0 : Int32)
set_option maxRecDepth 100000 in
set_option maxHeartbeats 4000000 in
theorem kM_freeOnes_b35 (G : xG)   (z : xM) (m : xM) (k4 : Int32 → Int32 → Option (Int32)) (hk4 : ∀ (v1 : Int32) (v2 : Int32), xR G yyM_freeOnes (emi (z, m)) 4 [(0, .ref (xa G 85)), (1, .int v1), (2, .int v2)] [] (z, m) (k4 v1 v2)) (v2 : Int32) (s0 : Int32) (s1 : Int32) : xR G yyM_freeOnes (emi (z, m)) 35 [(0, .ref (xa G 85)), (2, .int v2)] [.int s0, .int s1] (z, m) (fM_freeOnes_b35 m k4 v2 s0 s1) := by
  unfold fM_freeOnes_b35
  refine xR_ior 35 dM_freeOnes_35 ?_
  refine xR_isn 36 ([(1, .int (s1 ||| s0)), (0, .ref (xa G 85)), (2, .int v2)]) dM_freeOnes_36 rfl (by decide) rfl ?_
  refine xR_iinc 37 2 (v2 + 1) ([(2, .int (v2 + 1)), (1, .int (s1 ||| s0)), (0, .ref (xa G 85))]) dM_freeOnes_37 rfl rfl (by decide) rfl ?_
  refine xR_goto 40 4 dM_freeOnes_40 (by decide) ?_
  exact xR_sub [2, 1, 0] rfl (hk4 (s1 ||| s0) (v2 + 1))
set_option maxRecDepth 100000 in
set_option maxHeartbeats 4000000 in
theorem kM_freeOnes_l4 (G : xG)   (z : xM) (m : xM)   : ∀ (n : Nat) (v1 : Int32) (v2 : Int32), xR G yyM_freeOnes (emi (z, m)) 4 [(0, .ref (xa G 85)), (1, .int v1), (2, .int v2)] [] (z, m) (fM_freeOnes_l4 m n v1 v2) := by
  intro n
  induction n with
  | zero =>
    intro v1 v2
    rw [fM_freeOnes_l4]
    exact xR_none
  | succ n ih =>
    intro v1 v2
    rw [fM_freeOnes_l4]
    refine xR_iln 4 2 dM_freeOnes_4 rfl rfl ?_
    refine xR_aln 5 0 dM_freeOnes_5 rfl rfl ?_
    refine xR_getf 6 xcf7 0 85 (by decide) (by decide) rfl (v := .ref (xa G 86)) rfl fl_RX9_7 dM_freeOnes_6 ?_
    refine xR_ic 9 (0 : Int32) dM_freeOnes_9 (by decide) ?_
    refine xR_iald 10 86 (by decide) rfl dM_freeOnes_10 ?_
    refine xR_icge 11 43 dM_freeOnes_11 (by decide) ?_ ?_
    · refine xR_iln 43 1 dM_freeOnes_43 rfl rfl ?_
      exact xR_iret 44 rfl rfl dM_freeOnes_44
    · refine xR_iln 14 1 dM_freeOnes_14 rfl rfl ?_
      refine xR_aln 15 0 dM_freeOnes_15 rfl rfl ?_
      refine xR_getf 16 xcf7 0 85 (by decide) (by decide) rfl (v := .ref (xa G 86)) rfl fl_RX9_7 dM_freeOnes_16 ?_
      refine xR_bp 19 (38 : Int32) dM_freeOnes_19 (by decide) ?_
      refine xR_iln 21 2 dM_freeOnes_21 rfl rfl ?_
      refine xR_iadd 22 dM_freeOnes_22 ?_
      refine xR_iald 23 86 (by decide) rfl dM_freeOnes_23 ?_
      refine xR_ic 24 (-1 : Int32) dM_freeOnes_24 (by decide) ?_
      refine xR_icne 25 34 dM_freeOnes_25 (by decide) ?_ ?_
      · refine xR_ic 34 (0 : Int32) dM_freeOnes_34 (by decide) ?_
        exact xR_sub [0, 2] rfl (kM_freeOnes_b35 G z m (fM_freeOnes_l4 m n) ih v2 (0 : Int32) v1)
      · refine xR_ic 28 (1 : Int32) dM_freeOnes_28 (by decide) ?_
        refine xR_iln 29 2 dM_freeOnes_29 rfl rfl ?_
        refine xR_ishl 30 dM_freeOnes_30 ?_
        refine xR_goto 31 35 dM_freeOnes_31 (by decide) ?_
        exact xR_sub [0, 2] rfl (kM_freeOnes_b35 G z m (fM_freeOnes_l4 m n) ih v2 ((1 : Int32) <<< (v2 &&& 31)) v1)
set_option maxRecDepth 100000 in
set_option maxHeartbeats 4000000 in
theorem kM_freeOnes (G : xG)   (z : xM) (m : xM) : ∀ a, fM_freeOnes m  = some a → xCt G yyM_freeOnes [.ref (xa G 85)] (z, m) (some (.int a)) (z, m) := by
  refine xR_ct (em := (emi (z, m))) rfl (Nat.le_of_ble_eq_true rfl) ?_
  show xR G yyM_freeOnes _ 0 [(0, .ref (xa G 85))] [] _ _
  unfold fM_freeOnes
  refine xR_ic 0 (0 : Int32) dM_freeOnes_0 (by decide) ?_
  refine xR_isn 1 ([(1, .int (0 : Int32)), (0, .ref (xa G 85))]) dM_freeOnes_1 rfl (by decide) rfl ?_
  refine xR_ic 2 (0 : Int32) dM_freeOnes_2 (by decide) ?_
  refine xR_isn 3 ([(2, .int (0 : Int32)), (1, .int (0 : Int32)), (0, .ref (xa G 85))]) dM_freeOnes_3 rfl (by decide) rfl ?_
  exact xR_sub [2, 1, 0] rfl (kM_freeOnes_l4 G z m xfu (0 : Int32) (0 : Int32))
theorem dM_tune_0 : decode (xb yyM_tune) 0 = .ok (.aload_n 0, 1) := by decide +kernel
theorem dM_tune_1 : decode (xb yyM_tune) 1 = .ok (.iload_n 1, 1) := by decide +kernel
theorem dM_tune_2 : decode (xb yyM_tune) 2 = .ok (.invokevirtual 177, 3) := by decide +kernel
theorem dM_tune_5 : decode (xb yyM_tune) 5 = .ok (.ifCond .eq 22, 3) := by decide +kernel
theorem dM_tune_8 : decode (xb yyM_tune) 8 = .ok (.iload_n 2, 1) := by decide +kernel
theorem dM_tune_9 : decode (xb yyM_tune) 9 = .ok (.invokestatic 206, 3) := by decide +kernel
theorem dM_tune_12 : decode (xb yyM_tune) 12 = .ok (.ifCond .eq 15, 3) := by decide +kernel
theorem dM_tune_15 : decode (xb yyM_tune) 15 = .ok (.iload_n 3, 1) := by decide +kernel
theorem dM_tune_16 : decode (xb yyM_tune) 16 = .ok (.i2l, 1) := by decide +kernel
theorem dM_tune_17 : decode (xb yyM_tune) 17 = .ok (.lconst 0, 1) := by decide +kernel
theorem dM_tune_18 : decode (xb yyM_tune) 18 = .ok (.ldc2_w 215, 3) := by decide +kernel
theorem dM_tune_21 : decode (xb yyM_tune) 21 = .ok (.invokestatic 40, 3) := by decide +kernel
theorem dM_tune_24 : decode (xb yyM_tune) 24 = .ok (.ifCond .ne 10, 3) := by decide +kernel
theorem dM_tune_27 : decode (xb yyM_tune) 27 = .ok (.aload_n 0, 1) := by decide +kernel
theorem dM_tune_28 : decode (xb yyM_tune) 28 = .ok (.bipush (-2), 2) := by decide +kernel
theorem dM_tune_30 : decode (xb yyM_tune) 30 = .ok (.invokevirtual 66, 3) := by decide +kernel
theorem dM_tune_33 : decode (xb yyM_tune) 33 = .ok (.ireturn, 1) := by decide +kernel
theorem dM_tune_34 : decode (xb yyM_tune) 34 = .ok (.iconst (-1), 1) := by decide +kernel
theorem dM_tune_35 : decode (xb yyM_tune) 35 = .ok (.istore 4, 2) := by decide +kernel
theorem dM_tune_37 : decode (xb yyM_tune) 37 = .ok (.aload_n 0, 1) := by decide +kernel
theorem dM_tune_38 : decode (xb yyM_tune) 38 = .ok (.invokevirtual 217, 3) := by decide +kernel
theorem dM_tune_41 : decode (xb yyM_tune) 41 = .ok (.istore 5, 2) := by decide +kernel
theorem dM_tune_43 : decode (xb yyM_tune) 43 = .ok (.iconst 0, 1) := by decide +kernel
theorem dM_tune_44 : decode (xb yyM_tune) 44 = .ok (.istore 6, 2) := by decide +kernel
theorem dM_tune_46 : decode (xb yyM_tune) 46 = .ok (.iload 6, 2) := by decide +kernel
theorem dM_tune_48 : decode (xb yyM_tune) 48 = .ok (.iconst 1, 1) := by decide +kernel
theorem dM_tune_49 : decode (xb yyM_tune) 49 = .ok (.aload_n 0, 1) := by decide +kernel
theorem dM_tune_50 : decode (xb yyM_tune) 50 = .ok (.getfield 7, 3) := by decide +kernel
theorem dM_tune_53 : decode (xb yyM_tune) 53 = .ok (.iconst 0, 1) := by decide +kernel
theorem dM_tune_54 : decode (xb yyM_tune) 54 = .ok (.iaload, 1) := by decide +kernel
theorem dM_tune_55 : decode (xb yyM_tune) 55 = .ok (.ishl, 1) := by decide +kernel
theorem dM_tune_56 : decode (xb yyM_tune) 56 = .ok (.if_icmp .ge 147, 3) := by decide +kernel
theorem dM_tune_59 : decode (xb yyM_tune) 59 = .ok (.iload 6, 2) := by decide +kernel
theorem dM_tune_61 : decode (xb yyM_tune) 61 = .ok (.iload 5, 2) := by decide +kernel
theorem dM_tune_63 : decode (xb yyM_tune) 63 = .ok (.iconst (-1), 1) := by decide +kernel
theorem dM_tune_64 : decode (xb yyM_tune) 64 = .ok (.ixor, 1) := by decide +kernel
theorem dM_tune_65 : decode (xb yyM_tune) 65 = .ok (.iand, 1) := by decide +kernel
theorem dM_tune_66 : decode (xb yyM_tune) 66 = .ok (.ifCond .ne 42, 3) := by decide +kernel
theorem dM_tune_69 : decode (xb yyM_tune) 69 = .ok (.iload 6, 2) := by decide +kernel
theorem dM_tune_71 : decode (xb yyM_tune) 71 = .ok (.invokestatic 189, 3) := by decide +kernel
theorem dM_tune_74 : decode (xb yyM_tune) 74 = .ok (.aload_n 0, 1) := by decide +kernel
theorem dM_tune_75 : decode (xb yyM_tune) 75 = .ok (.iconst 0, 1) := by decide +kernel
theorem dM_tune_76 : decode (xb yyM_tune) 76 = .ok (.iload_n 1, 1) := by decide +kernel
theorem dM_tune_77 : decode (xb yyM_tune) 77 = .ok (.invokevirtual 127, 3) := by decide +kernel
theorem dM_tune_80 : decode (xb yyM_tune) 80 = .ok (.iadd, 1) := by decide +kernel
theorem dM_tune_81 : decode (xb yyM_tune) 81 = .ok (.iconst 4, 1) := by decide +kernel
theorem dM_tune_82 : decode (xb yyM_tune) 82 = .ok (.if_icmp .gt 26, 3) := by decide +kernel
theorem dM_tune_85 : decode (xb yyM_tune) 85 = .ok (.iload 4, 2) := by decide +kernel
theorem dM_tune_87 : decode (xb yyM_tune) 87 = .ok (.iconst (-1), 1) := by decide +kernel
theorem dM_tune_88 : decode (xb yyM_tune) 88 = .ok (.if_icmp .eq 16, 3) := by decide +kernel
theorem dM_tune_91 : decode (xb yyM_tune) 91 = .ok (.iload 6, 2) := by decide +kernel
theorem dM_tune_93 : decode (xb yyM_tune) 93 = .ok (.invokestatic 189, 3) := by decide +kernel
theorem dM_tune_96 : decode (xb yyM_tune) 96 = .ok (.iload 4, 2) := by decide +kernel
theorem dM_tune_98 : decode (xb yyM_tune) 98 = .ok (.invokestatic 189, 3) := by decide +kernel
theorem dM_tune_101 : decode (xb yyM_tune) 101 = .ok (.if_icmp .ge 7, 3) := by decide +kernel
theorem dM_tune_104 : decode (xb yyM_tune) 104 = .ok (.iconst 1, 1) := by decide +kernel
theorem dM_tune_105 : decode (xb yyM_tune) 105 = .ok (.goto 4, 3) := by decide +kernel
theorem dM_tune_108 : decode (xb yyM_tune) 108 = .ok (.iconst 0, 1) := by decide +kernel
theorem dM_tune_109 : decode (xb yyM_tune) 109 = .ok (.istore 7, 2) := by decide +kernel
theorem dM_tune_111 : decode (xb yyM_tune) 111 = .ok (.iload 7, 2) := by decide +kernel
theorem dM_tune_113 : decode (xb yyM_tune) 113 = .ok (.ifCond .eq 84, 3) := by decide +kernel
theorem dM_tune_116 : decode (xb yyM_tune) 116 = .ok (.aload_n 0, 1) := by decide +kernel
theorem dM_tune_117 : decode (xb yyM_tune) 117 = .ok (.invokevirtual 212, 3) := by decide +kernel
theorem dM_tune_120 : decode (xb yyM_tune) 120 = .ok (.iconst 0, 1) := by decide +kernel
theorem dM_tune_121 : decode (xb yyM_tune) 121 = .ok (.istore 8, 2) := by decide +kernel
theorem dM_tune_123 : decode (xb yyM_tune) 123 = .ok (.iload 8, 2) := by decide +kernel
theorem dM_tune_125 : decode (xb yyM_tune) 125 = .ok (.aload_n 0, 1) := by decide +kernel
theorem dM_tune_126 : decode (xb yyM_tune) 126 = .ok (.getfield 7, 3) := by decide +kernel
theorem dM_tune_129 : decode (xb yyM_tune) 129 = .ok (.iconst 0, 1) := by decide +kernel
theorem dM_tune_130 : decode (xb yyM_tune) 130 = .ok (.iaload, 1) := by decide +kernel
theorem dM_tune_131 : decode (xb yyM_tune) 131 = .ok (.if_icmp .ge 44, 3) := by decide +kernel
theorem dM_tune_134 : decode (xb yyM_tune) 134 = .ok (.aload_n 0, 1) := by decide +kernel
theorem dM_tune_135 : decode (xb yyM_tune) 135 = .ok (.getfield 7, 3) := by decide +kernel
theorem dM_tune_138 : decode (xb yyM_tune) 138 = .ok (.sipush 1742, 3) := by decide +kernel
theorem dM_tune_141 : decode (xb yyM_tune) 141 = .ok (.iload 8, 2) := by decide +kernel
theorem dM_tune_143 : decode (xb yyM_tune) 143 = .ok (.iadd, 1) := by decide +kernel
theorem dM_tune_144 : decode (xb yyM_tune) 144 = .ok (.iload 6, 2) := by decide +kernel
theorem dM_tune_146 : decode (xb yyM_tune) 146 = .ok (.iload 8, 2) := by decide +kernel
theorem dM_tune_148 : decode (xb yyM_tune) 148 = .ok (.invokestatic 220, 3) := by decide +kernel
theorem dM_tune_151 : decode (xb yyM_tune) 151 = .ok (.ifCond .eq 7, 3) := by decide +kernel
theorem dM_tune_154 : decode (xb yyM_tune) 154 = .ok (.iload_n 1, 1) := by decide +kernel
theorem dM_tune_155 : decode (xb yyM_tune) 155 = .ok (.goto 13, 3) := by decide +kernel
theorem dM_tune_158 : decode (xb yyM_tune) 158 = .ok (.aload_n 0, 1) := by decide +kernel
theorem dM_tune_159 : decode (xb yyM_tune) 159 = .ok (.getfield 7, 3) := by decide +kernel
theorem dM_tune_162 : decode (xb yyM_tune) 162 = .ok (.bipush 38, 2) := by decide +kernel
theorem dM_tune_164 : decode (xb yyM_tune) 164 = .ok (.iload 8, 2) := by decide +kernel
theorem dM_tune_166 : decode (xb yyM_tune) 166 = .ok (.iadd, 1) := by decide +kernel
theorem dM_tune_167 : decode (xb yyM_tune) 167 = .ok (.iaload, 1) := by decide +kernel
theorem dM_tune_168 : decode (xb yyM_tune) 168 = .ok (.iastore, 1) := by decide +kernel
theorem dM_tune_169 : decode (xb yyM_tune) 169 = .ok (.iinc 8 1, 3) := by decide +kernel
theorem dM_tune_172 : decode (xb yyM_tune) 172 = .ok (.goto (-49), 3) := by decide +kernel
theorem dM_tune_175 : decode (xb yyM_tune) 175 = .ok (.aload_n 0, 1) := by decide +kernel
theorem dM_tune_176 : decode (xb yyM_tune) 176 = .ok (.sipush 1704, 3) := by decide +kernel
theorem dM_tune_179 : decode (xb yyM_tune) 179 = .ok (.iload_n 1, 1) := by decide +kernel
theorem dM_tune_180 : decode (xb yyM_tune) 180 = .ok (.iload_n 2, 1) := by decide +kernel
theorem dM_tune_181 : decode (xb yyM_tune) 181 = .ok (.invokevirtual 209, 3) := by decide +kernel
theorem dM_tune_184 : decode (xb yyM_tune) 184 = .ok (.iload_n 3, 1) := by decide +kernel
theorem dM_tune_185 : decode (xb yyM_tune) 185 = .ok (.if_icmp .ne 8, 3) := by decide +kernel
theorem dM_tune_188 : decode (xb yyM_tune) 188 = .ok (.iload 6, 2) := by decide +kernel
theorem dM_tune_190 : decode (xb yyM_tune) 190 = .ok (.goto 5, 3) := by decide +kernel
theorem dM_tune_193 : decode (xb yyM_tune) 193 = .ok (.iload 4, 2) := by decide +kernel
theorem dM_tune_195 : decode (xb yyM_tune) 195 = .ok (.istore 4, 2) := by decide +kernel
theorem dM_tune_197 : decode (xb yyM_tune) 197 = .ok (.iinc 6 1, 3) := by decide +kernel
theorem dM_tune_200 : decode (xb yyM_tune) 200 = .ok (.goto (-154), 3) := by decide +kernel
theorem dM_tune_203 : decode (xb yyM_tune) 203 = .ok (.iload 4, 2) := by decide +kernel
theorem dM_tune_205 : decode (xb yyM_tune) 205 = .ok (.ireturn, 1) := by decide +kernel
def fM_tune_b197 (k46 : Int32 → Int32 → Int32 → Int32 → Int32 → Int32 → xM → Option (Int32 × xM)) (v1 : Int32) (v2 : Int32) (v3 : Int32) (v4 : Int32) (v5 : Int32) (v6 : Int32) (m : xM) : Option (Int32 × xM) := k46 v1 v2 v3 v4 v5 (v6 + 1) m
def fM_tune_b195 (k46 : Int32 → Int32 → Int32 → Int32 → Int32 → Int32 → xM → Option (Int32 × xM)) (v1 : Int32) (v2 : Int32) (v3 : Int32) (v5 : Int32) (v6 : Int32) (s0 : Int32) (m : xM) : Option (Int32 × xM) := fM_tune_b197 k46 v1 v2 v3 s0 v5 v6 m
def fM_tune_b168 (k46 : Int32 → Int32 → Int32 → Int32 → Int32 → Int32 → xM → Option (Int32 × xM)) (k123 : Int32 → Int32 → Int32 → Int32 → Int32 → Int32 → Int32 → xM → Option (Int32 × xM)) (v1 : Int32) (v2 : Int32) (v3 : Int32) (v4 : Int32) (v5 : Int32) (v6 : Int32) (v8 : Int32) (s0 : Int32) (s1 : Int32) (m : xM) : Option (Int32 × xM) := xck 1752 s1 (k123 v1 v2 v3 v4 v5 v6 (v8 + 1) (xset m 0 s1.toNatClampNeg s0))
def fM_tune_l123 (k46 : Int32 → Int32 → Int32 → Int32 → Int32 → Int32 → xM → Option (Int32 × xM)) : Nat → Int32 → Int32 → Int32 → Int32 → Int32 → Int32 → Int32 → xM → Option (Int32 × xM)
  | 0, _, _, _, _, _, _, _, _ => none
  | n + 1, v1, v2, v3, v4, v5, v6, v8, m => xck 1752 (0 : Int32) ((if (m.1 0 (0 : Int32).toNatClampNeg) ≤ v8 then (fM_playsIn m (1704 : Int32) v1 v2).bind fun r181 => (if r181 = v3 then fM_tune_b195 k46 v1 v2 v3 v5 v6 v6 m else fM_tune_b195 k46 v1 v2 v3 v5 v6 v4 m) else (fM_has v6 v8).bind fun r148 => (if r148 = 0 then xck 1752 ((38 : Int32) + v8) (fM_tune_b168 k46 (fM_tune_l123 k46 n) v1 v2 v3 v4 v5 v6 v8 (m.1 0 ((38 : Int32) + v8).toNatClampNeg) ((1742 : Int32) + v8) m) else fM_tune_b168 k46 (fM_tune_l123 k46 n) v1 v2 v3 v4 v5 v6 v8 v1 ((1742 : Int32) + v8) m)))
def fM_tune_b109 (k46 : Int32 → Int32 → Int32 → Int32 → Int32 → Int32 → xM → Option (Int32 × xM)) (v1 : Int32) (v2 : Int32) (v3 : Int32) (v4 : Int32) (v5 : Int32) (v6 : Int32) (s0 : Int32) (m : xM) : Option (Int32 × xM) := (if s0 = 0 then fM_tune_b197 k46 v1 v2 v3 v4 v5 v6 m else (fM_tries m).bind fun r117 => fM_tune_l123 k46 xfu v1 v2 v3 v4 v5 v6 (0 : Int32) r117)
def fM_tune_b108 (k46 : Int32 → Int32 → Int32 → Int32 → Int32 → Int32 → xM → Option (Int32 × xM)) (v1 : Int32) (v2 : Int32) (v3 : Int32) (v4 : Int32) (v5 : Int32) (v6 : Int32) (m : xM) : Option (Int32 × xM) := fM_tune_b109 k46 v1 v2 v3 v4 v5 v6 (0 : Int32) m
def fM_tune_b104 (k46 : Int32 → Int32 → Int32 → Int32 → Int32 → Int32 → xM → Option (Int32 × xM)) (v1 : Int32) (v2 : Int32) (v3 : Int32) (v4 : Int32) (v5 : Int32) (v6 : Int32) (m : xM) : Option (Int32 × xM) := fM_tune_b109 k46 v1 v2 v3 v4 v5 v6 (1 : Int32) m
def fM_tune_l46  : Nat → Int32 → Int32 → Int32 → Int32 → Int32 → Int32 → xM → Option (Int32 × xM)
  | 0, _, _, _, _, _, _, _ => none
  | n + 1, v1, v2, v3, v4, v5, v6, m => xck 1752 (0 : Int32) ((if ((1 : Int32) <<< ((m.1 0 (0 : Int32).toNatClampNeg) &&& 31)) ≤ v6 then some (v4, m) else (if (v6 &&& (v5 ^^^ (-1 : Int32))) = 0 then (fM_ones v6).bind fun r71 => (fM_boardsOf m (0 : Int32) v1).bind fun r77 => (if (4 : Int32) < (r71 + r77) then fM_tune_b108 (fM_tune_l46 n) v1 v2 v3 v4 v5 v6 m else (if v4 = (-1 : Int32) then fM_tune_b104 (fM_tune_l46 n) v1 v2 v3 v4 v5 v6 m else (fM_ones v6).bind fun r93 => (fM_ones v4).bind fun r98 => (if r98 ≤ r93 then fM_tune_b108 (fM_tune_l46 n) v1 v2 v3 v4 v5 v6 m else fM_tune_b104 (fM_tune_l46 n) v1 v2 v3 v4 v5 v6 m))) else fM_tune_b108 (fM_tune_l46 n) v1 v2 v3 v4 v5 v6 m)))
def fM_tune  (v1 : Int32) (v2 : Int32) (v3 : Int32) (m : xM) : Option (Int32 × xM) := (fM_isInstrument m v1).bind fun r2 => (if r2 = 0 then (fM_bad (-2 : Int32) m).bind fun r30 => some (r30.1, r30.2) else (fM_isString v2).bind fun r9 => (if r9 = 0 then (fM_bad (-2 : Int32) m).bind fun r30 => some (r30.1, r30.2) else (fM_in ((v3).toInt64) (0 : Int64) (200 : Int64)).bind fun r21 => (if r21 = 0 then (fM_bad (-2 : Int32) m).bind fun r30 => some (r30.1, r30.2) else (fM_freeOnes m).bind fun r38 => fM_tune_l46 xfu v1 v2 v3 (-1 : Int32) r38 (0 : Int32) m)))
set_option maxRecDepth 100000 in
set_option maxHeartbeats 4000000 in
theorem kM_tune_b197 (G : xG)   (z : xM)  (k46 : Int32 → Int32 → Int32 → Int32 → Int32 → Int32 → xM → Option (Int32 × xM)) (hk46 : ∀ (v1 : Int32) (v2 : Int32) (v3 : Int32) (v4 : Int32) (v5 : Int32) (v6 : Int32) (m : xM), xR G yyM_tune (emim z) 46 [(0, .ref (xa G 85)), (1, .int v1), (2, .int v2), (3, .int v3), (4, .int v4), (5, .int v5), (6, .int v6)] [] (z, m) (k46 v1 v2 v3 v4 v5 v6 m)) (v1 : Int32) (v2 : Int32) (v3 : Int32) (v4 : Int32) (v5 : Int32) (v6 : Int32) (m : xM) : xR G yyM_tune (emim z) 197 [(0, .ref (xa G 85)), (1, .int v1), (2, .int v2), (3, .int v3), (4, .int v4), (5, .int v5), (6, .int v6)] [] (z, m) (fM_tune_b197 k46 v1 v2 v3 v4 v5 v6 m) := by
  unfold fM_tune_b197
  refine xR_iinc 197 6 (v6 + 1) ([(6, .int (v6 + 1)), (0, .ref (xa G 85)), (1, .int v1), (2, .int v2), (3, .int v3), (4, .int v4), (5, .int v5)]) dM_tune_197 rfl rfl (by decide) rfl ?_
  refine xR_goto 200 46 dM_tune_200 (by decide) ?_
  exact xR_sub [1, 2, 3, 4, 5, 6, 0] rfl (hk46 v1 v2 v3 v4 v5 (v6 + 1) m)
set_option maxRecDepth 100000 in
set_option maxHeartbeats 4000000 in
theorem kM_tune_b195 (G : xG)   (z : xM)  (k46 : Int32 → Int32 → Int32 → Int32 → Int32 → Int32 → xM → Option (Int32 × xM)) (hk46 : ∀ (v1 : Int32) (v2 : Int32) (v3 : Int32) (v4 : Int32) (v5 : Int32) (v6 : Int32) (m : xM), xR G yyM_tune (emim z) 46 [(0, .ref (xa G 85)), (1, .int v1), (2, .int v2), (3, .int v3), (4, .int v4), (5, .int v5), (6, .int v6)] [] (z, m) (k46 v1 v2 v3 v4 v5 v6 m)) (v1 : Int32) (v2 : Int32) (v3 : Int32) (v5 : Int32) (v6 : Int32) (s0 : Int32) (m : xM) : xR G yyM_tune (emim z) 195 [(0, .ref (xa G 85)), (1, .int v1), (2, .int v2), (3, .int v3), (5, .int v5), (6, .int v6)] [.int s0] (z, m) (fM_tune_b195 k46 v1 v2 v3 v5 v6 s0 m) := by
  unfold fM_tune_b195
  refine xR_is 195 ([(4, .int s0), (0, .ref (xa G 85)), (1, .int v1), (2, .int v2), (3, .int v3), (5, .int v5), (6, .int v6)]) dM_tune_195 (by decide) rfl ?_
  exact xR_sub [1, 2, 3, 4, 0, 5, 6] rfl (kM_tune_b197 G z k46 hk46 v1 v2 v3 s0 v5 v6 m)
set_option maxRecDepth 100000 in
set_option maxHeartbeats 4000000 in
theorem kM_tune_b168 (G : xG)   (z : xM)  (k46 : Int32 → Int32 → Int32 → Int32 → Int32 → Int32 → xM → Option (Int32 × xM)) (k123 : Int32 → Int32 → Int32 → Int32 → Int32 → Int32 → Int32 → xM → Option (Int32 × xM)) (hk46 : ∀ (v1 : Int32) (v2 : Int32) (v3 : Int32) (v4 : Int32) (v5 : Int32) (v6 : Int32) (m : xM), xR G yyM_tune (emim z) 46 [(0, .ref (xa G 85)), (1, .int v1), (2, .int v2), (3, .int v3), (4, .int v4), (5, .int v5), (6, .int v6)] [] (z, m) (k46 v1 v2 v3 v4 v5 v6 m)) (hk123 : ∀ (v1 : Int32) (v2 : Int32) (v3 : Int32) (v4 : Int32) (v5 : Int32) (v6 : Int32) (v8 : Int32) (m : xM), xR G yyM_tune (emim z) 123 [(0, .ref (xa G 85)), (1, .int v1), (2, .int v2), (3, .int v3), (4, .int v4), (5, .int v5), (6, .int v6), (8, .int v8)] [] (z, m) (k123 v1 v2 v3 v4 v5 v6 v8 m)) (v1 : Int32) (v2 : Int32) (v3 : Int32) (v4 : Int32) (v5 : Int32) (v6 : Int32) (v8 : Int32) (s0 : Int32) (s1 : Int32) (m : xM) : xR G yyM_tune (emim z) 168 [(0, .ref (xa G 85)), (1, .int v1), (2, .int v2), (3, .int v3), (4, .int v4), (5, .int v5), (6, .int v6), (8, .int v8)] [.int s0, .int s1, .ref (xa G 86)] (z, m) (fM_tune_b168 k46 k123 v1 v2 v3 v4 v5 v6 v8 s0 s1 m) := by
  unfold fM_tune_b168
  refine xR_iast 168 86 (by decide) rfl (z, (xset m 0 s1.toNatClampNeg s0)) xW_m0 dM_tune_168 ?_
  refine xR_iinc 169 7 (v8 + 1) ([(8, .int (v8 + 1)), (0, .ref (xa G 85)), (1, .int v1), (2, .int v2), (3, .int v3), (4, .int v4), (5, .int v5), (6, .int v6)]) dM_tune_169 rfl rfl (by decide) rfl ?_
  refine xR_goto 172 123 dM_tune_172 (by decide) ?_
  exact xR_sub [1, 2, 3, 4, 5, 6, 7, 0] rfl (hk123 v1 v2 v3 v4 v5 v6 (v8 + 1) (xset m 0 s1.toNatClampNeg s0))
set_option maxRecDepth 100000 in
set_option maxHeartbeats 4000000 in
theorem kM_tune_l123 (G : xG)   (z : xM)  (k46 : Int32 → Int32 → Int32 → Int32 → Int32 → Int32 → xM → Option (Int32 × xM)) (hk46 : ∀ (v1 : Int32) (v2 : Int32) (v3 : Int32) (v4 : Int32) (v5 : Int32) (v6 : Int32) (m : xM), xR G yyM_tune (emim z) 46 [(0, .ref (xa G 85)), (1, .int v1), (2, .int v2), (3, .int v3), (4, .int v4), (5, .int v5), (6, .int v6)] [] (z, m) (k46 v1 v2 v3 v4 v5 v6 m)) : ∀ (n : Nat) (v1 : Int32) (v2 : Int32) (v3 : Int32) (v4 : Int32) (v5 : Int32) (v6 : Int32) (v8 : Int32) (m : xM), xR G yyM_tune (emim z) 123 [(0, .ref (xa G 85)), (1, .int v1), (2, .int v2), (3, .int v3), (4, .int v4), (5, .int v5), (6, .int v6), (8, .int v8)] [] (z, m) (fM_tune_l123 k46 n v1 v2 v3 v4 v5 v6 v8 m) := by
  intro n
  induction n with
  | zero =>
    intro v1 v2 v3 v4 v5 v6 v8 m
    rw [fM_tune_l123]
    exact xR_none
  | succ n ih =>
    intro v1 v2 v3 v4 v5 v6 v8 m
    rw [fM_tune_l123]
    refine xR_il 123 7 dM_tune_123 rfl ?_
    refine xR_aln 125 0 dM_tune_125 rfl rfl ?_
    refine xR_getf 126 xcf7 0 85 (by decide) (by decide) rfl (v := .ref (xa G 86)) rfl fl_RX9_7 dM_tune_126 ?_
    refine xR_ic 129 (0 : Int32) dM_tune_129 (by decide) ?_
    refine xR_iald 130 86 (by decide) rfl dM_tune_130 ?_
    refine xR_icge 131 175 dM_tune_131 (by decide) ?_ ?_
    · refine xR_aln 175 0 dM_tune_175 rfl rfl ?_
      refine xR_sp 176 (1704 : Int32) dM_tune_176 (by decide) ?_
      refine xR_iln 179 1 dM_tune_179 rfl rfl ?_
      refine xR_iln 180 2 dM_tune_180 rfl rfl ?_
      refine xR_callVi 181 cv_M_playsIn ml_RX9_209 ⟨Nat.le_of_ble_eq_true rfl, Nat.le_of_ble_eq_true rfl⟩ xcf7 rfl 85 (by decide) rfl [.int (1704 : Int32), .int v1, .int v2] rfl rfl (Nat.le_of_ble_eq_true rfl) dM_tune_181 (kM_playsIn G z m (1704 : Int32) v1 v2) (fun r181 => ?_)
      refine xR_iln 184 3 dM_tune_184 rfl rfl ?_
      refine xR_icne 185 193 dM_tune_185 (by decide) ?_ ?_
      · refine xR_il 193 4 dM_tune_193 rfl ?_
        exact xR_sub [0, 1, 2, 3, 5, 6] rfl (kM_tune_b195 G z k46 hk46 v1 v2 v3 v5 v6 v4 m)
      · refine xR_il 188 6 dM_tune_188 rfl ?_
        refine xR_goto 190 195 dM_tune_190 (by decide) ?_
        exact xR_sub [0, 1, 2, 3, 5, 6] rfl (kM_tune_b195 G z k46 hk46 v1 v2 v3 v5 v6 v6 m)
    · refine xR_aln 134 0 dM_tune_134 rfl rfl ?_
      refine xR_getf 135 xcf7 0 85 (by decide) (by decide) rfl (v := .ref (xa G 86)) rfl fl_RX9_7 dM_tune_135 ?_
      refine xR_sp 138 (1742 : Int32) dM_tune_138 (by decide) ?_
      refine xR_il 141 7 dM_tune_141 rfl ?_
      refine xR_iadd 143 dM_tune_143 ?_
      refine xR_il 144 6 dM_tune_144 rfl ?_
      refine xR_il 146 7 dM_tune_146 rfl ?_
      refine xR_callSi 148 cs_M_has ml_RX9_220 ⟨Nat.le_of_ble_eq_true rfl, Nat.le_of_ble_eq_true rfl⟩ [.int v6, .int v8] rfl rfl (Nat.le_of_ble_eq_true rfl) dM_tune_148 (kM_has G (z, m) v6 v8) (fun r148 => ?_)
      refine xR_ifeq 151 158 dM_tune_151 (by decide) ?_ ?_
      · refine xR_aln 158 0 dM_tune_158 rfl rfl ?_
        refine xR_getf 159 xcf7 0 85 (by decide) (by decide) rfl (v := .ref (xa G 86)) rfl fl_RX9_7 dM_tune_159 ?_
        refine xR_bp 162 (38 : Int32) dM_tune_162 (by decide) ?_
        refine xR_il 164 7 dM_tune_164 rfl ?_
        refine xR_iadd 166 dM_tune_166 ?_
        refine xR_iald 167 86 (by decide) rfl dM_tune_167 ?_
        exact kM_tune_b168 G z k46 (fM_tune_l123 k46 n) hk46 ih v1 v2 v3 v4 v5 v6 v8 (m.1 0 ((38 : Int32) + v8).toNatClampNeg) ((1742 : Int32) + v8) m
      · refine xR_iln 154 1 dM_tune_154 rfl rfl ?_
        refine xR_goto 155 168 dM_tune_155 (by decide) ?_
        exact kM_tune_b168 G z k46 (fM_tune_l123 k46 n) hk46 ih v1 v2 v3 v4 v5 v6 v8 v1 ((1742 : Int32) + v8) m
set_option maxRecDepth 100000 in
set_option maxHeartbeats 4000000 in
theorem kM_tune_b109 (G : xG)   (z : xM)  (k46 : Int32 → Int32 → Int32 → Int32 → Int32 → Int32 → xM → Option (Int32 × xM)) (hk46 : ∀ (v1 : Int32) (v2 : Int32) (v3 : Int32) (v4 : Int32) (v5 : Int32) (v6 : Int32) (m : xM), xR G yyM_tune (emim z) 46 [(0, .ref (xa G 85)), (1, .int v1), (2, .int v2), (3, .int v3), (4, .int v4), (5, .int v5), (6, .int v6)] [] (z, m) (k46 v1 v2 v3 v4 v5 v6 m)) (v1 : Int32) (v2 : Int32) (v3 : Int32) (v4 : Int32) (v5 : Int32) (v6 : Int32) (s0 : Int32) (m : xM) : xR G yyM_tune (emim z) 109 [(0, .ref (xa G 85)), (1, .int v1), (2, .int v2), (3, .int v3), (4, .int v4), (5, .int v5), (6, .int v6)] [.int s0] (z, m) (fM_tune_b109 k46 v1 v2 v3 v4 v5 v6 s0 m) := by
  unfold fM_tune_b109
  refine xR_is 109 ([(7, .int s0), (0, .ref (xa G 85)), (1, .int v1), (2, .int v2), (3, .int v3), (4, .int v4), (5, .int v5), (6, .int v6)]) dM_tune_109 (by decide) rfl ?_
  refine xR_il 111 0 dM_tune_111 rfl ?_
  refine xR_ifeq 113 197 dM_tune_113 (by decide) ?_ ?_
  · exact xR_sub [1, 2, 3, 4, 5, 6, 7] rfl (kM_tune_b197 G z k46 hk46 v1 v2 v3 v4 v5 v6 m)
  · refine xR_aln 116 1 dM_tune_116 rfl rfl ?_
    refine xR_callVvm 117 cv_M_tries ml_RX9_212 ⟨Nat.le_of_ble_eq_true rfl, Nat.le_of_ble_eq_true rfl⟩ xcf7 rfl 85 (by decide) rfl [] rfl rfl (Nat.le_of_ble_eq_true rfl) dM_tune_117 (kM_tries G z m) (fun r117 => ?_)
    refine xR_ic 120 (0 : Int32) dM_tune_120 (by decide) ?_
    refine xR_is 121 ([(8, .int (0 : Int32)), (7, .int s0), (0, .ref (xa G 85)), (1, .int v1), (2, .int v2), (3, .int v3), (4, .int v4), (5, .int v5), (6, .int v6)]) dM_tune_121 (by decide) rfl ?_
    exact xR_sub [2, 3, 4, 5, 6, 7, 8, 0] rfl (kM_tune_l123 G z k46 hk46 xfu v1 v2 v3 v4 v5 v6 (0 : Int32) r117)
set_option maxRecDepth 100000 in
set_option maxHeartbeats 4000000 in
theorem kM_tune_b108 (G : xG)   (z : xM)  (k46 : Int32 → Int32 → Int32 → Int32 → Int32 → Int32 → xM → Option (Int32 × xM)) (hk46 : ∀ (v1 : Int32) (v2 : Int32) (v3 : Int32) (v4 : Int32) (v5 : Int32) (v6 : Int32) (m : xM), xR G yyM_tune (emim z) 46 [(0, .ref (xa G 85)), (1, .int v1), (2, .int v2), (3, .int v3), (4, .int v4), (5, .int v5), (6, .int v6)] [] (z, m) (k46 v1 v2 v3 v4 v5 v6 m)) (v1 : Int32) (v2 : Int32) (v3 : Int32) (v4 : Int32) (v5 : Int32) (v6 : Int32) (m : xM) : xR G yyM_tune (emim z) 108 [(0, .ref (xa G 85)), (1, .int v1), (2, .int v2), (3, .int v3), (4, .int v4), (5, .int v5), (6, .int v6)] [] (z, m) (fM_tune_b108 k46 v1 v2 v3 v4 v5 v6 m) := by
  unfold fM_tune_b108
  refine xR_ic 108 (0 : Int32) dM_tune_108 (by decide) ?_
  exact kM_tune_b109 G z k46 hk46 v1 v2 v3 v4 v5 v6 (0 : Int32) m
set_option maxRecDepth 100000 in
set_option maxHeartbeats 4000000 in
theorem kM_tune_b104 (G : xG)   (z : xM)  (k46 : Int32 → Int32 → Int32 → Int32 → Int32 → Int32 → xM → Option (Int32 × xM)) (hk46 : ∀ (v1 : Int32) (v2 : Int32) (v3 : Int32) (v4 : Int32) (v5 : Int32) (v6 : Int32) (m : xM), xR G yyM_tune (emim z) 46 [(0, .ref (xa G 85)), (1, .int v1), (2, .int v2), (3, .int v3), (4, .int v4), (5, .int v5), (6, .int v6)] [] (z, m) (k46 v1 v2 v3 v4 v5 v6 m)) (v1 : Int32) (v2 : Int32) (v3 : Int32) (v4 : Int32) (v5 : Int32) (v6 : Int32) (m : xM) : xR G yyM_tune (emim z) 104 [(0, .ref (xa G 85)), (1, .int v1), (2, .int v2), (3, .int v3), (4, .int v4), (5, .int v5), (6, .int v6)] [] (z, m) (fM_tune_b104 k46 v1 v2 v3 v4 v5 v6 m) := by
  unfold fM_tune_b104
  refine xR_ic 104 (1 : Int32) dM_tune_104 (by decide) ?_
  refine xR_goto 105 109 dM_tune_105 (by decide) ?_
  exact kM_tune_b109 G z k46 hk46 v1 v2 v3 v4 v5 v6 (1 : Int32) m
set_option maxRecDepth 100000 in
set_option maxHeartbeats 4000000 in
theorem kM_tune_l46 (G : xG)   (z : xM)    : ∀ (n : Nat) (v1 : Int32) (v2 : Int32) (v3 : Int32) (v4 : Int32) (v5 : Int32) (v6 : Int32) (m : xM), xR G yyM_tune (emim z) 46 [(0, .ref (xa G 85)), (1, .int v1), (2, .int v2), (3, .int v3), (4, .int v4), (5, .int v5), (6, .int v6)] [] (z, m) (fM_tune_l46  n v1 v2 v3 v4 v5 v6 m) := by
  intro n
  induction n with
  | zero =>
    intro v1 v2 v3 v4 v5 v6 m
    rw [fM_tune_l46]
    exact xR_none
  | succ n ih =>
    intro v1 v2 v3 v4 v5 v6 m
    rw [fM_tune_l46]
    refine xR_il 46 6 dM_tune_46 rfl ?_
    refine xR_ic 48 (1 : Int32) dM_tune_48 (by decide) ?_
    refine xR_aln 49 0 dM_tune_49 rfl rfl ?_
    refine xR_getf 50 xcf7 0 85 (by decide) (by decide) rfl (v := .ref (xa G 86)) rfl fl_RX9_7 dM_tune_50 ?_
    refine xR_ic 53 (0 : Int32) dM_tune_53 (by decide) ?_
    refine xR_iald 54 86 (by decide) rfl dM_tune_54 ?_
    refine xR_ishl 55 dM_tune_55 ?_
    refine xR_icge 56 203 dM_tune_56 (by decide) ?_ ?_
    · refine xR_il 203 4 dM_tune_203 rfl ?_
      exact xR_iret 205 rfl rfl dM_tune_205
    · refine xR_il 59 6 dM_tune_59 rfl ?_
      refine xR_il 61 5 dM_tune_61 rfl ?_
      refine xR_ic 63 (-1 : Int32) dM_tune_63 (by decide) ?_
      refine xR_ixor 64 dM_tune_64 ?_
      refine xR_iand 65 dM_tune_65 ?_
      refine xR_ifne 66 108 dM_tune_66 (by decide) ?_ ?_
      · exact kM_tune_b108 G z (fM_tune_l46 n) ih v1 v2 v3 v4 v5 v6 m
      · refine xR_il 69 6 dM_tune_69 rfl ?_
        refine xR_callSi 71 cs_M_ones ml_RX9_189 ⟨Nat.le_of_ble_eq_true rfl, Nat.le_of_ble_eq_true rfl⟩ [.int v6] rfl rfl (Nat.le_of_ble_eq_true rfl) dM_tune_71 (kM_ones G (z, m) v6) (fun r71 => ?_)
        refine xR_aln 74 0 dM_tune_74 rfl rfl ?_
        refine xR_ic 75 (0 : Int32) dM_tune_75 (by decide) ?_
        refine xR_iln 76 1 dM_tune_76 rfl rfl ?_
        refine xR_callVi 77 cv_M_boardsOf ml_RX9_127 ⟨Nat.le_of_ble_eq_true rfl, Nat.le_of_ble_eq_true rfl⟩ xcf7 rfl 85 (by decide) rfl [.int (0 : Int32), .int v1] rfl rfl (Nat.le_of_ble_eq_true rfl) dM_tune_77 (kM_boardsOf G z m (0 : Int32) v1) (fun r77 => ?_)
        refine xR_iadd 80 dM_tune_80 ?_
        refine xR_ic 81 (4 : Int32) dM_tune_81 (by decide) ?_
        refine xR_icgt 82 108 dM_tune_82 (by decide) ?_ ?_
        · exact kM_tune_b108 G z (fM_tune_l46 n) ih v1 v2 v3 v4 v5 v6 m
        · refine xR_il 85 4 dM_tune_85 rfl ?_
          refine xR_ic 87 (-1 : Int32) dM_tune_87 (by decide) ?_
          refine xR_iceq 88 104 dM_tune_88 (by decide) ?_ ?_
          · exact kM_tune_b104 G z (fM_tune_l46 n) ih v1 v2 v3 v4 v5 v6 m
          · refine xR_il 91 6 dM_tune_91 rfl ?_
            refine xR_callSi 93 cs_M_ones ml_RX9_189 ⟨Nat.le_of_ble_eq_true rfl, Nat.le_of_ble_eq_true rfl⟩ [.int v6] rfl rfl (Nat.le_of_ble_eq_true rfl) dM_tune_93 (kM_ones G (z, m) v6) (fun r93 => ?_)
            refine xR_il 96 4 dM_tune_96 rfl ?_
            refine xR_callSi 98 cs_M_ones ml_RX9_189 ⟨Nat.le_of_ble_eq_true rfl, Nat.le_of_ble_eq_true rfl⟩ [.int v4] rfl rfl (Nat.le_of_ble_eq_true rfl) dM_tune_98 (kM_ones G (z, m) v4) (fun r98 => ?_)
            refine xR_icge 101 108 dM_tune_101 (by decide) ?_ ?_
            · exact kM_tune_b108 G z (fM_tune_l46 n) ih v1 v2 v3 v4 v5 v6 m
            · exact kM_tune_b104 G z (fM_tune_l46 n) ih v1 v2 v3 v4 v5 v6 m
set_option maxRecDepth 100000 in
set_option maxHeartbeats 4000000 in
theorem kM_tune (G : xG)   (z : xM) (m : xM) (v1 : Int32) (v2 : Int32) (v3 : Int32) : ∀ a, fM_tune  v1 v2 v3 m = some a → xCt G yyM_tune [.ref (xa G 85), .int v1, .int v2, .int v3] (z, m) (some (.int a.1)) (z, a.2) := by
  refine xR_ct (em := (emim z)) rfl (Nat.le_of_ble_eq_true rfl) ?_
  show xR G yyM_tune _ 0 [(0, .ref (xa G 85)), (1, .int v1), (2, .int v2), (3, .int v3)] [] _ _
  unfold fM_tune
  refine xR_aln 0 0 dM_tune_0 rfl rfl ?_
  refine xR_iln 1 1 dM_tune_1 rfl rfl ?_
  refine xR_callVi 2 cv_M_isInstrument ml_RX9_177 ⟨Nat.le_of_ble_eq_true rfl, Nat.le_of_ble_eq_true rfl⟩ xcf7 rfl 85 (by decide) rfl [.int v1] rfl rfl (Nat.le_of_ble_eq_true rfl) dM_tune_2 (kM_isInstrument G z m v1) (fun r2 => ?_)
  refine xR_ifeq 5 27 dM_tune_5 (by decide) ?_ ?_
  · refine xR_aln 27 0 dM_tune_27 rfl rfl ?_
    refine xR_bp 28 (-2 : Int32) dM_tune_28 (by decide) ?_
    refine xR_callVim 30 cv_M_bad ml_RX9_66 ⟨Nat.le_of_ble_eq_true rfl, Nat.le_of_ble_eq_true rfl⟩ xcf7 rfl 85 (by decide) rfl [.int (-2 : Int32)] rfl rfl (Nat.le_of_ble_eq_true rfl) dM_tune_30 (kM_bad G z m (-2 : Int32)) (fun r30 => ?_)
    exact xR_iret 33 rfl rfl dM_tune_33
  · refine xR_iln 8 2 dM_tune_8 rfl rfl ?_
    refine xR_callSi 9 cs_M_isString ml_RX9_206 ⟨Nat.le_of_ble_eq_true rfl, Nat.le_of_ble_eq_true rfl⟩ [.int v2] rfl rfl (Nat.le_of_ble_eq_true rfl) dM_tune_9 (kM_isString G (z, m) v2) (fun r9 => ?_)
    refine xR_ifeq 12 27 dM_tune_12 (by decide) ?_ ?_
    · refine xR_aln 27 0 dM_tune_27 rfl rfl ?_
      refine xR_bp 28 (-2 : Int32) dM_tune_28 (by decide) ?_
      refine xR_callVim 30 cv_M_bad ml_RX9_66 ⟨Nat.le_of_ble_eq_true rfl, Nat.le_of_ble_eq_true rfl⟩ xcf7 rfl 85 (by decide) rfl [.int (-2 : Int32)] rfl rfl (Nat.le_of_ble_eq_true rfl) dM_tune_30 (kM_bad G z m (-2 : Int32)) (fun r30 => ?_)
      exact xR_iret 33 rfl rfl dM_tune_33
    · refine xR_iln 15 3 dM_tune_15 rfl rfl ?_
      refine xR_i2l 16 dM_tune_16 ?_
      refine xR_lc 17 (0 : Int64) dM_tune_17 (by decide) ?_
      refine xR_ldc2 18 cl_RX9_215 dM_tune_18 ?_
      refine xR_callSi 21 cs_M_in ml_RX9_40 ⟨Nat.le_of_ble_eq_true rfl, Nat.le_of_ble_eq_true rfl⟩ [.long ((v3).toInt64), .long (0 : Int64), .long (200 : Int64)] rfl rfl (Nat.le_of_ble_eq_true rfl) dM_tune_21 (kM_in G (z, m) ((v3).toInt64) (0 : Int64) (200 : Int64)) (fun r21 => ?_)
      refine xR_ifne 24 34 dM_tune_24 (by decide) ?_ ?_
      · refine xR_ic 34 (-1 : Int32) dM_tune_34 (by decide) ?_
        refine xR_is 35 ([(4, .int (-1 : Int32)), (0, .ref (xa G 85)), (1, .int v1), (2, .int v2), (3, .int v3)]) dM_tune_35 (by decide) rfl ?_
        refine xR_aln 37 1 dM_tune_37 rfl rfl ?_
        refine xR_callVi 38 cv_M_freeOnes ml_RX9_217 ⟨Nat.le_of_ble_eq_true rfl, Nat.le_of_ble_eq_true rfl⟩ xcf7 rfl 85 (by decide) rfl [] rfl rfl (Nat.le_of_ble_eq_true rfl) dM_tune_38 (kM_freeOnes G z m) (fun r38 => ?_)
        refine xR_is 41 ([(5, .int r38), (4, .int (-1 : Int32)), (0, .ref (xa G 85)), (1, .int v1), (2, .int v2), (3, .int v3)]) dM_tune_41 (by decide) rfl ?_
        refine xR_ic 43 (0 : Int32) dM_tune_43 (by decide) ?_
        refine xR_is 44 ([(6, .int (0 : Int32)), (5, .int r38), (4, .int (-1 : Int32)), (0, .ref (xa G 85)), (1, .int v1), (2, .int v2), (3, .int v3)]) dM_tune_44 (by decide) rfl ?_
        exact xR_sub [3, 4, 5, 6, 2, 1, 0] rfl (kM_tune_l46 G z xfu v1 v2 v3 (-1 : Int32) r38 (0 : Int32) m)
      · refine xR_aln 27 0 dM_tune_27 rfl rfl ?_
        refine xR_bp 28 (-2 : Int32) dM_tune_28 (by decide) ?_
        refine xR_callVim 30 cv_M_bad ml_RX9_66 ⟨Nat.le_of_ble_eq_true rfl, Nat.le_of_ble_eq_true rfl⟩ xcf7 rfl 85 (by decide) rfl [.int (-2 : Int32)] rfl rfl (Nat.le_of_ble_eq_true rfl) dM_tune_30 (kM_bad G z m (-2 : Int32)) (fun r30 => ?_)
        exact xR_iret 33 rfl rfl dM_tune_33
theorem dM_poorest_0 : decode (xb yyM_poorest) 0 = .ok (.ldc 223, 2) := by decide +kernel
theorem dM_poorest_2 : decode (xb yyM_poorest) 2 = .ok (.istore_n 2, 1) := by decide +kernel
theorem dM_poorest_3 : decode (xb yyM_poorest) 3 = .ok (.iconst 0, 1) := by decide +kernel
theorem dM_poorest_4 : decode (xb yyM_poorest) 4 = .ok (.istore_n 3, 1) := by decide +kernel
theorem dM_poorest_5 : decode (xb yyM_poorest) 5 = .ok (.iload_n 3, 1) := by decide +kernel
theorem dM_poorest_6 : decode (xb yyM_poorest) 6 = .ok (.aload_n 0, 1) := by decide +kernel
theorem dM_poorest_7 : decode (xb yyM_poorest) 7 = .ok (.getfield 7, 3) := by decide +kernel
theorem dM_poorest_10 : decode (xb yyM_poorest) 10 = .ok (.iconst 1, 1) := by decide +kernel
theorem dM_poorest_11 : decode (xb yyM_poorest) 11 = .ok (.iaload, 1) := by decide +kernel
theorem dM_poorest_12 : decode (xb yyM_poorest) 12 = .ok (.if_icmp .ge 33, 3) := by decide +kernel
theorem dM_poorest_15 : decode (xb yyM_poorest) 15 = .ok (.aload_n 0, 1) := by decide +kernel
theorem dM_poorest_16 : decode (xb yyM_poorest) 16 = .ok (.sipush 1704, 3) := by decide +kernel
theorem dM_poorest_19 : decode (xb yyM_poorest) 19 = .ok (.iload_n 3, 1) := by decide +kernel
theorem dM_poorest_20 : decode (xb yyM_poorest) 20 = .ok (.iload_n 1, 1) := by decide +kernel
theorem dM_poorest_21 : decode (xb yyM_poorest) 21 = .ok (.invokevirtual 209, 3) := by decide +kernel
theorem dM_poorest_24 : decode (xb yyM_poorest) 24 = .ok (.istore 4, 2) := by decide +kernel
theorem dM_poorest_26 : decode (xb yyM_poorest) 26 = .ok (.iload 4, 2) := by decide +kernel
theorem dM_poorest_28 : decode (xb yyM_poorest) 28 = .ok (.iload_n 2, 1) := by decide +kernel
theorem dM_poorest_29 : decode (xb yyM_poorest) 29 = .ok (.if_icmp .ge 8, 3) := by decide +kernel
theorem dM_poorest_32 : decode (xb yyM_poorest) 32 = .ok (.iload 4, 2) := by decide +kernel
theorem dM_poorest_34 : decode (xb yyM_poorest) 34 = .ok (.goto 4, 3) := by decide +kernel
theorem dM_poorest_37 : decode (xb yyM_poorest) 37 = .ok (.iload_n 2, 1) := by decide +kernel
theorem dM_poorest_38 : decode (xb yyM_poorest) 38 = .ok (.istore_n 2, 1) := by decide +kernel
theorem dM_poorest_39 : decode (xb yyM_poorest) 39 = .ok (.iinc 3 1, 3) := by decide +kernel
theorem dM_poorest_42 : decode (xb yyM_poorest) 42 = .ok (.goto (-37), 3) := by decide +kernel
theorem dM_poorest_45 : decode (xb yyM_poorest) 45 = .ok (.iload_n 2, 1) := by decide +kernel
theorem dM_poorest_46 : decode (xb yyM_poorest) 46 = .ok (.ireturn, 1) := by decide +kernel
def fM_poorest_b38  (m : xM) (k5 : Int32 → Int32 → Int32 → Option (Int32)) (v1 : Int32) (v3 : Int32) (s0 : Int32) : Option (Int32) := k5 v1 s0 (v3 + 1)
def fM_poorest_l5  (m : xM) : Nat → Int32 → Int32 → Int32 → Option (Int32)
  | 0, _, _, _ => none
  | n + 1, v1, v2, v3 => xck 1752 (1 : Int32) ((if (m.1 0 (1 : Int32).toNatClampNeg) ≤ v3 then some v2 else (fM_playsIn m (1704 : Int32) v3 v1).bind fun r21 => (if v2 ≤ r21 then fM_poorest_b38 m (fM_poorest_l5 m n) v1 v3 v2 else fM_poorest_b38 m (fM_poorest_l5 m n) v1 v3 r21)))
def fM_poorest  (m : xM) (v1 : Int32) : Option (Int32) := fM_poorest_l5 m xfu v1 (1000000 : Int32) (0 : Int32)
set_option maxRecDepth 100000 in
set_option maxHeartbeats 4000000 in
theorem kM_poorest_b38 (G : xG)   (z : xM) (m : xM) (k5 : Int32 → Int32 → Int32 → Option (Int32)) (hk5 : ∀ (v1 : Int32) (v2 : Int32) (v3 : Int32), xR G yyM_poorest (emi (z, m)) 5 [(0, .ref (xa G 85)), (1, .int v1), (2, .int v2), (3, .int v3)] [] (z, m) (k5 v1 v2 v3)) (v1 : Int32) (v3 : Int32) (s0 : Int32) : xR G yyM_poorest (emi (z, m)) 38 [(0, .ref (xa G 85)), (1, .int v1), (3, .int v3)] [.int s0] (z, m) (fM_poorest_b38 m k5 v1 v3 s0) := by
  unfold fM_poorest_b38
  refine xR_isn 38 ([(2, .int s0), (0, .ref (xa G 85)), (1, .int v1), (3, .int v3)]) dM_poorest_38 rfl (by decide) rfl ?_
  refine xR_iinc 39 3 (v3 + 1) ([(3, .int (v3 + 1)), (2, .int s0), (0, .ref (xa G 85)), (1, .int v1)]) dM_poorest_39 rfl rfl (by decide) rfl ?_
  refine xR_goto 42 5 dM_poorest_42 (by decide) ?_
  exact xR_sub [2, 3, 1, 0] rfl (hk5 v1 s0 (v3 + 1))
set_option maxRecDepth 100000 in
set_option maxHeartbeats 4000000 in
theorem kM_poorest_l5 (G : xG)   (z : xM) (m : xM)   : ∀ (n : Nat) (v1 : Int32) (v2 : Int32) (v3 : Int32), xR G yyM_poorest (emi (z, m)) 5 [(0, .ref (xa G 85)), (1, .int v1), (2, .int v2), (3, .int v3)] [] (z, m) (fM_poorest_l5 m n v1 v2 v3) := by
  intro n
  induction n with
  | zero =>
    intro v1 v2 v3
    rw [fM_poorest_l5]
    exact xR_none
  | succ n ih =>
    intro v1 v2 v3
    rw [fM_poorest_l5]
    refine xR_iln 5 3 dM_poorest_5 rfl rfl ?_
    refine xR_aln 6 0 dM_poorest_6 rfl rfl ?_
    refine xR_getf 7 xcf7 0 85 (by decide) (by decide) rfl (v := .ref (xa G 86)) rfl fl_RX9_7 dM_poorest_7 ?_
    refine xR_ic 10 (1 : Int32) dM_poorest_10 (by decide) ?_
    refine xR_iald 11 86 (by decide) rfl dM_poorest_11 ?_
    refine xR_icge 12 45 dM_poorest_12 (by decide) ?_ ?_
    · refine xR_iln 45 2 dM_poorest_45 rfl rfl ?_
      exact xR_iret 46 rfl rfl dM_poorest_46
    · refine xR_aln 15 0 dM_poorest_15 rfl rfl ?_
      refine xR_sp 16 (1704 : Int32) dM_poorest_16 (by decide) ?_
      refine xR_iln 19 3 dM_poorest_19 rfl rfl ?_
      refine xR_iln 20 1 dM_poorest_20 rfl rfl ?_
      refine xR_callVi 21 cv_M_playsIn ml_RX9_209 ⟨Nat.le_of_ble_eq_true rfl, Nat.le_of_ble_eq_true rfl⟩ xcf7 rfl 85 (by decide) rfl [.int (1704 : Int32), .int v3, .int v1] rfl rfl (Nat.le_of_ble_eq_true rfl) dM_poorest_21 (kM_playsIn G z m (1704 : Int32) v3 v1) (fun r21 => ?_)
      refine xR_is 24 ([(4, .int r21), (0, .ref (xa G 85)), (1, .int v1), (2, .int v2), (3, .int v3)]) dM_poorest_24 (by decide) rfl ?_
      refine xR_il 26 0 dM_poorest_26 rfl ?_
      refine xR_iln 28 3 dM_poorest_28 rfl rfl ?_
      refine xR_icge 29 37 dM_poorest_29 (by decide) ?_ ?_
      · refine xR_iln 37 3 dM_poorest_37 rfl rfl ?_
        exact xR_sub [1, 2, 4] rfl (kM_poorest_b38 G z m (fM_poorest_l5 m n) ih v1 v3 v2)
      · refine xR_il 32 0 dM_poorest_32 rfl ?_
        refine xR_goto 34 38 dM_poorest_34 (by decide) ?_
        exact xR_sub [1, 2, 4] rfl (kM_poorest_b38 G z m (fM_poorest_l5 m n) ih v1 v3 r21)
set_option maxRecDepth 100000 in
set_option maxHeartbeats 4000000 in
theorem kM_poorest (G : xG)   (z : xM) (m : xM) (v1 : Int32) : ∀ a, fM_poorest m v1 = some a → xCt G yyM_poorest [.ref (xa G 85), .int v1] (z, m) (some (.int a)) (z, m) := by
  refine xR_ct (em := (emi (z, m))) rfl (Nat.le_of_ble_eq_true rfl) ?_
  show xR G yyM_poorest _ 0 [(0, .ref (xa G 85)), (1, .int v1)] [] _ _
  unfold fM_poorest
  refine xR_ldc 0 ci_RX9_223 dM_poorest_0 ?_
  refine xR_isn 2 ([(2, .int (1000000 : Int32)), (0, .ref (xa G 85)), (1, .int v1)]) dM_poorest_2 rfl (by decide) rfl ?_
  refine xR_ic 3 (0 : Int32) dM_poorest_3 (by decide) ?_
  refine xR_isn 4 ([(3, .int (0 : Int32)), (2, .int (1000000 : Int32)), (0, .ref (xa G 85)), (1, .int v1)]) dM_poorest_4 rfl (by decide) rfl ?_
  exact xR_sub [2, 3, 1, 0] rfl (kM_poorest_l5 G z m xfu v1 (1000000 : Int32) (0 : Int32))
theorem dM_hasRoom_0 : decode (xb yyM_hasRoom) 0 = .ok (.iconst 1, 1) := by decide +kernel
theorem dM_hasRoom_1 : decode (xb yyM_hasRoom) 1 = .ok (.istore_n 1, 1) := by decide +kernel
theorem dM_hasRoom_2 : decode (xb yyM_hasRoom) 2 = .ok (.iconst 0, 1) := by decide +kernel
theorem dM_hasRoom_3 : decode (xb yyM_hasRoom) 3 = .ok (.istore_n 2, 1) := by decide +kernel
theorem dM_hasRoom_4 : decode (xb yyM_hasRoom) 4 = .ok (.iload_n 2, 1) := by decide +kernel
theorem dM_hasRoom_5 : decode (xb yyM_hasRoom) 5 = .ok (.aload_n 0, 1) := by decide +kernel
theorem dM_hasRoom_6 : decode (xb yyM_hasRoom) 6 = .ok (.getfield 7, 3) := by decide +kernel
theorem dM_hasRoom_9 : decode (xb yyM_hasRoom) 9 = .ok (.iconst 1, 1) := by decide +kernel
theorem dM_hasRoom_10 : decode (xb yyM_hasRoom) 10 = .ok (.iaload, 1) := by decide +kernel
theorem dM_hasRoom_11 : decode (xb yyM_hasRoom) 11 = .ok (.if_icmp .ge 31, 3) := by decide +kernel
theorem dM_hasRoom_14 : decode (xb yyM_hasRoom) 14 = .ok (.iload_n 1, 1) := by decide +kernel
theorem dM_hasRoom_15 : decode (xb yyM_hasRoom) 15 = .ok (.ifCond .eq 19, 3) := by decide +kernel
theorem dM_hasRoom_18 : decode (xb yyM_hasRoom) 18 = .ok (.aload_n 0, 1) := by decide +kernel
theorem dM_hasRoom_19 : decode (xb yyM_hasRoom) 19 = .ok (.sipush 1704, 3) := by decide +kernel
theorem dM_hasRoom_22 : decode (xb yyM_hasRoom) 22 = .ok (.iload_n 2, 1) := by decide +kernel
theorem dM_hasRoom_23 : decode (xb yyM_hasRoom) 23 = .ok (.invokevirtual 127, 3) := by decide +kernel
theorem dM_hasRoom_26 : decode (xb yyM_hasRoom) 26 = .ok (.iconst 4, 1) := by decide +kernel
theorem dM_hasRoom_27 : decode (xb yyM_hasRoom) 27 = .ok (.if_icmp .gt 7, 3) := by decide +kernel
theorem dM_hasRoom_30 : decode (xb yyM_hasRoom) 30 = .ok (.iconst 1, 1) := by decide +kernel
theorem dM_hasRoom_31 : decode (xb yyM_hasRoom) 31 = .ok (.goto 4, 3) := by decide +kernel
theorem dM_hasRoom_34 : decode (xb yyM_hasRoom) 34 = .ok (.iconst 0, 1) := by decide +kernel
theorem dM_hasRoom_35 : decode (xb yyM_hasRoom) 35 = .ok (.istore_n 1, 1) := by decide +kernel
theorem dM_hasRoom_36 : decode (xb yyM_hasRoom) 36 = .ok (.iinc 2 1, 3) := by decide +kernel
theorem dM_hasRoom_39 : decode (xb yyM_hasRoom) 39 = .ok (.goto (-35), 3) := by decide +kernel
theorem dM_hasRoom_42 : decode (xb yyM_hasRoom) 42 = .ok (.iload_n 1, 1) := by decide +kernel
theorem dM_hasRoom_43 : decode (xb yyM_hasRoom) 43 = .ok (.ireturn, 1) := by decide +kernel
def fM_hasRoom_b35  (m : xM) (k4 : Int32 → Int32 → Option (Int32)) (v2 : Int32) (s0 : Int32) : Option (Int32) := k4 s0 (v2 + 1)
def fM_hasRoom_b34  (m : xM) (k4 : Int32 → Int32 → Option (Int32)) (v2 : Int32) : Option (Int32) := fM_hasRoom_b35 m k4 v2 (0 : Int32)
def fM_hasRoom_l4  (m : xM) : Nat → Int32 → Int32 → Option (Int32)
  | 0, _, _ => none
  | n + 1, v1, v2 => xck 1752 (1 : Int32) ((if (m.1 0 (1 : Int32).toNatClampNeg) ≤ v2 then some (xnb v1) else (if v1 = 0 then fM_hasRoom_b34 m (fM_hasRoom_l4 m n) v2 else (fM_boardsOf m (1704 : Int32) v2).bind fun r23 => (if (4 : Int32) < r23 then fM_hasRoom_b34 m (fM_hasRoom_l4 m n) v2 else fM_hasRoom_b35 m (fM_hasRoom_l4 m n) v2 (1 : Int32)))))
def fM_hasRoom  (m : xM) : Option (Int32) := fM_hasRoom_l4 m xfu (1 : Int32) (0 : Int32)
set_option maxRecDepth 100000 in
set_option maxHeartbeats 4000000 in
theorem kM_hasRoom_b35 (G : xG)   (z : xM) (m : xM) (k4 : Int32 → Int32 → Option (Int32)) (hk4 : ∀ (v1 : Int32) (v2 : Int32), xR G yyM_hasRoom (emi (z, m)) 4 [(0, .ref (xa G 85)), (1, .int v1), (2, .int v2)] [] (z, m) (k4 v1 v2)) (v2 : Int32) (s0 : Int32) : xR G yyM_hasRoom (emi (z, m)) 35 [(0, .ref (xa G 85)), (2, .int v2)] [.int s0] (z, m) (fM_hasRoom_b35 m k4 v2 s0) := by
  unfold fM_hasRoom_b35
  refine xR_isn 35 ([(1, .int s0), (0, .ref (xa G 85)), (2, .int v2)]) dM_hasRoom_35 rfl (by decide) rfl ?_
  refine xR_iinc 36 2 (v2 + 1) ([(2, .int (v2 + 1)), (1, .int s0), (0, .ref (xa G 85))]) dM_hasRoom_36 rfl rfl (by decide) rfl ?_
  refine xR_goto 39 4 dM_hasRoom_39 (by decide) ?_
  exact xR_sub [2, 1, 0] rfl (hk4 s0 (v2 + 1))
set_option maxRecDepth 100000 in
set_option maxHeartbeats 4000000 in
theorem kM_hasRoom_b34 (G : xG)   (z : xM) (m : xM) (k4 : Int32 → Int32 → Option (Int32)) (hk4 : ∀ (v1 : Int32) (v2 : Int32), xR G yyM_hasRoom (emi (z, m)) 4 [(0, .ref (xa G 85)), (1, .int v1), (2, .int v2)] [] (z, m) (k4 v1 v2)) (v2 : Int32) : xR G yyM_hasRoom (emi (z, m)) 34 [(0, .ref (xa G 85)), (2, .int v2)] [] (z, m) (fM_hasRoom_b34 m k4 v2) := by
  unfold fM_hasRoom_b34
  refine xR_ic 34 (0 : Int32) dM_hasRoom_34 (by decide) ?_
  exact kM_hasRoom_b35 G z m k4 hk4 v2 (0 : Int32)
set_option maxRecDepth 100000 in
set_option maxHeartbeats 4000000 in
theorem kM_hasRoom_l4 (G : xG)   (z : xM) (m : xM)   : ∀ (n : Nat) (v1 : Int32) (v2 : Int32), xR G yyM_hasRoom (emi (z, m)) 4 [(0, .ref (xa G 85)), (1, .int v1), (2, .int v2)] [] (z, m) (fM_hasRoom_l4 m n v1 v2) := by
  intro n
  induction n with
  | zero =>
    intro v1 v2
    rw [fM_hasRoom_l4]
    exact xR_none
  | succ n ih =>
    intro v1 v2
    rw [fM_hasRoom_l4]
    refine xR_iln 4 2 dM_hasRoom_4 rfl rfl ?_
    refine xR_aln 5 0 dM_hasRoom_5 rfl rfl ?_
    refine xR_getf 6 xcf7 0 85 (by decide) (by decide) rfl (v := .ref (xa G 86)) rfl fl_RX9_7 dM_hasRoom_6 ?_
    refine xR_ic 9 (1 : Int32) dM_hasRoom_9 (by decide) ?_
    refine xR_iald 10 86 (by decide) rfl dM_hasRoom_10 ?_
    refine xR_icge 11 42 dM_hasRoom_11 (by decide) ?_ ?_
    · refine xR_iln 42 1 dM_hasRoom_42 rfl rfl ?_
      exact xR_zret 43 rfl rfl dM_hasRoom_43
    · refine xR_iln 14 1 dM_hasRoom_14 rfl rfl ?_
      refine xR_ifeq 15 34 dM_hasRoom_15 (by decide) ?_ ?_
      · exact xR_sub [0, 2] rfl (kM_hasRoom_b34 G z m (fM_hasRoom_l4 m n) ih v2)
      · refine xR_aln 18 0 dM_hasRoom_18 rfl rfl ?_
        refine xR_sp 19 (1704 : Int32) dM_hasRoom_19 (by decide) ?_
        refine xR_iln 22 2 dM_hasRoom_22 rfl rfl ?_
        refine xR_callVi 23 cv_M_boardsOf ml_RX9_127 ⟨Nat.le_of_ble_eq_true rfl, Nat.le_of_ble_eq_true rfl⟩ xcf7 rfl 85 (by decide) rfl [.int (1704 : Int32), .int v2] rfl rfl (Nat.le_of_ble_eq_true rfl) dM_hasRoom_23 (kM_boardsOf G z m (1704 : Int32) v2) (fun r23 => ?_)
        refine xR_ic 26 (4 : Int32) dM_hasRoom_26 (by decide) ?_
        refine xR_icgt 27 34 dM_hasRoom_27 (by decide) ?_ ?_
        · exact xR_sub [0, 2] rfl (kM_hasRoom_b34 G z m (fM_hasRoom_l4 m n) ih v2)
        · refine xR_ic 30 (1 : Int32) dM_hasRoom_30 (by decide) ?_
          refine xR_goto 31 35 dM_hasRoom_31 (by decide) ?_
          exact xR_sub [0, 2] rfl (kM_hasRoom_b35 G z m (fM_hasRoom_l4 m n) ih v2 (1 : Int32))
set_option maxRecDepth 100000 in
set_option maxHeartbeats 4000000 in
theorem kM_hasRoom (G : xG)   (z : xM) (m : xM) : ∀ a, fM_hasRoom m  = some a → xCt G yyM_hasRoom [.ref (xa G 85)] (z, m) (some (.int a)) (z, m) := by
  refine xR_ct (em := (emi (z, m))) rfl (Nat.le_of_ble_eq_true rfl) ?_
  show xR G yyM_hasRoom _ 0 [(0, .ref (xa G 85))] [] _ _
  unfold fM_hasRoom
  refine xR_ic 0 (1 : Int32) dM_hasRoom_0 (by decide) ?_
  refine xR_isn 1 ([(1, .int (1 : Int32)), (0, .ref (xa G 85))]) dM_hasRoom_1 rfl (by decide) rfl ?_
  refine xR_ic 2 (0 : Int32) dM_hasRoom_2 (by decide) ?_
  refine xR_isn 3 ([(2, .int (0 : Int32)), (1, .int (1 : Int32)), (0, .ref (xa G 85))]) dM_hasRoom_3 rfl (by decide) rfl ?_
  exact xR_sub [2, 1, 0] rfl (kM_hasRoom_l4 G z m xfu (1 : Int32) (0 : Int32))
