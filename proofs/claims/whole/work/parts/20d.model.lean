theorem dM_instrumentsOf_0 : decode (xb yyM_instrumentsOf) 0 = .ok (.iconst 0, 1) := by decide +kernel
theorem dM_instrumentsOf_1 : decode (xb yyM_instrumentsOf) 1 = .ok (.istore_n 2, 1) := by decide +kernel
theorem dM_instrumentsOf_2 : decode (xb yyM_instrumentsOf) 2 = .ok (.iconst 0, 1) := by decide +kernel
theorem dM_instrumentsOf_3 : decode (xb yyM_instrumentsOf) 3 = .ok (.istore_n 3, 1) := by decide +kernel
theorem dM_instrumentsOf_4 : decode (xb yyM_instrumentsOf) 4 = .ok (.iload_n 3, 1) := by decide +kernel
theorem dM_instrumentsOf_5 : decode (xb yyM_instrumentsOf) 5 = .ok (.bipush 6, 2) := by decide +kernel
theorem dM_instrumentsOf_7 : decode (xb yyM_instrumentsOf) 7 = .ok (.if_icmp .ge 133, 3) := by decide +kernel
theorem dM_instrumentsOf_10 : decode (xb yyM_instrumentsOf) 10 = .ok (.iconst 1, 1) := by decide +kernel
theorem dM_instrumentsOf_11 : decode (xb yyM_instrumentsOf) 11 = .ok (.istore 4, 2) := by decide +kernel
theorem dM_instrumentsOf_13 : decode (xb yyM_instrumentsOf) 13 = .ok (.iconst 0, 1) := by decide +kernel
theorem dM_instrumentsOf_14 : decode (xb yyM_instrumentsOf) 14 = .ok (.istore 5, 2) := by decide +kernel
theorem dM_instrumentsOf_16 : decode (xb yyM_instrumentsOf) 16 = .ok (.iload 5, 2) := by decide +kernel
theorem dM_instrumentsOf_18 : decode (xb yyM_instrumentsOf) 18 = .ok (.aload_n 0, 1) := by decide +kernel
theorem dM_instrumentsOf_19 : decode (xb yyM_instrumentsOf) 19 = .ok (.getfield 7, 3) := by decide +kernel
theorem dM_instrumentsOf_22 : decode (xb yyM_instrumentsOf) 22 = .ok (.bipush 92, 2) := by decide +kernel
theorem dM_instrumentsOf_24 : decode (xb yyM_instrumentsOf) 24 = .ok (.iaload, 1) := by decide +kernel
theorem dM_instrumentsOf_25 : decode (xb yyM_instrumentsOf) 25 = .ok (.if_icmp .ge 94, 3) := by decide +kernel
theorem dM_instrumentsOf_28 : decode (xb yyM_instrumentsOf) 28 = .ok (.bipush 93, 2) := by decide +kernel
theorem dM_instrumentsOf_30 : decode (xb yyM_instrumentsOf) 30 = .ok (.bipush 6, 2) := by decide +kernel
theorem dM_instrumentsOf_32 : decode (xb yyM_instrumentsOf) 32 = .ok (.iload 5, 2) := by decide +kernel
theorem dM_instrumentsOf_34 : decode (xb yyM_instrumentsOf) 34 = .ok (.imul, 1) := by decide +kernel
theorem dM_instrumentsOf_35 : decode (xb yyM_instrumentsOf) 35 = .ok (.iadd, 1) := by decide +kernel
theorem dM_instrumentsOf_36 : decode (xb yyM_instrumentsOf) 36 = .ok (.istore 6, 2) := by decide +kernel
theorem dM_instrumentsOf_38 : decode (xb yyM_instrumentsOf) 38 = .ok (.iload 4, 2) := by decide +kernel
theorem dM_instrumentsOf_40 : decode (xb yyM_instrumentsOf) 40 = .ok (.ifCond .eq 70, 3) := by decide +kernel
theorem dM_instrumentsOf_43 : decode (xb yyM_instrumentsOf) 43 = .ok (.aload_n 0, 1) := by decide +kernel
theorem dM_instrumentsOf_44 : decode (xb yyM_instrumentsOf) 44 = .ok (.getfield 7, 3) := by decide +kernel
theorem dM_instrumentsOf_47 : decode (xb yyM_instrumentsOf) 47 = .ok (.iload 6, 2) := by decide +kernel
theorem dM_instrumentsOf_49 : decode (xb yyM_instrumentsOf) 49 = .ok (.iaload, 1) := by decide +kernel
theorem dM_instrumentsOf_50 : decode (xb yyM_instrumentsOf) 50 = .ok (.iload_n 1, 1) := by decide +kernel
theorem dM_instrumentsOf_51 : decode (xb yyM_instrumentsOf) 51 = .ok (.if_icmp .ne 55, 3) := by decide +kernel
theorem dM_instrumentsOf_54 : decode (xb yyM_instrumentsOf) 54 = .ok (.iload_n 3, 1) := by decide +kernel
theorem dM_instrumentsOf_55 : decode (xb yyM_instrumentsOf) 55 = .ok (.aload_n 0, 1) := by decide +kernel
theorem dM_instrumentsOf_56 : decode (xb yyM_instrumentsOf) 56 = .ok (.getfield 7, 3) := by decide +kernel
theorem dM_instrumentsOf_59 : decode (xb yyM_instrumentsOf) 59 = .ok (.iload 6, 2) := by decide +kernel
theorem dM_instrumentsOf_61 : decode (xb yyM_instrumentsOf) 61 = .ok (.iconst 4, 1) := by decide +kernel
theorem dM_instrumentsOf_62 : decode (xb yyM_instrumentsOf) 62 = .ok (.iadd, 1) := by decide +kernel
theorem dM_instrumentsOf_63 : decode (xb yyM_instrumentsOf) 63 = .ok (.iaload, 1) := by decide +kernel
theorem dM_instrumentsOf_64 : decode (xb yyM_instrumentsOf) 64 = .ok (.aload_n 0, 1) := by decide +kernel
theorem dM_instrumentsOf_65 : decode (xb yyM_instrumentsOf) 65 = .ok (.getfield 7, 3) := by decide +kernel
theorem dM_instrumentsOf_68 : decode (xb yyM_instrumentsOf) 68 = .ok (.iload 6, 2) := by decide +kernel
theorem dM_instrumentsOf_70 : decode (xb yyM_instrumentsOf) 70 = .ok (.iconst 1, 1) := by decide +kernel
theorem dM_instrumentsOf_71 : decode (xb yyM_instrumentsOf) 71 = .ok (.iadd, 1) := by decide +kernel
theorem dM_instrumentsOf_72 : decode (xb yyM_instrumentsOf) 72 = .ok (.iaload, 1) := by decide +kernel
theorem dM_instrumentsOf_73 : decode (xb yyM_instrumentsOf) 73 = .ok (.aload_n 0, 1) := by decide +kernel
theorem dM_instrumentsOf_74 : decode (xb yyM_instrumentsOf) 74 = .ok (.getfield 7, 3) := by decide +kernel
theorem dM_instrumentsOf_77 : decode (xb yyM_instrumentsOf) 77 = .ok (.iload 6, 2) := by decide +kernel
theorem dM_instrumentsOf_79 : decode (xb yyM_instrumentsOf) 79 = .ok (.iconst 2, 1) := by decide +kernel
theorem dM_instrumentsOf_80 : decode (xb yyM_instrumentsOf) 80 = .ok (.iadd, 1) := by decide +kernel
theorem dM_instrumentsOf_81 : decode (xb yyM_instrumentsOf) 81 = .ok (.iaload, 1) := by decide +kernel
theorem dM_instrumentsOf_82 : decode (xb yyM_instrumentsOf) 82 = .ok (.aload_n 0, 1) := by decide +kernel
theorem dM_instrumentsOf_83 : decode (xb yyM_instrumentsOf) 83 = .ok (.getfield 7, 3) := by decide +kernel
theorem dM_instrumentsOf_86 : decode (xb yyM_instrumentsOf) 86 = .ok (.iload 6, 2) := by decide +kernel
theorem dM_instrumentsOf_88 : decode (xb yyM_instrumentsOf) 88 = .ok (.iconst 3, 1) := by decide +kernel
theorem dM_instrumentsOf_89 : decode (xb yyM_instrumentsOf) 89 = .ok (.iadd, 1) := by decide +kernel
theorem dM_instrumentsOf_90 : decode (xb yyM_instrumentsOf) 90 = .ok (.iaload, 1) := by decide +kernel
theorem dM_instrumentsOf_91 : decode (xb yyM_instrumentsOf) 91 = .ok (.invokestatic 202, 3) := by decide +kernel
theorem dM_instrumentsOf_94 : decode (xb yyM_instrumentsOf) 94 = .ok (.aload_n 0, 1) := by decide +kernel
theorem dM_instrumentsOf_95 : decode (xb yyM_instrumentsOf) 95 = .ok (.getfield 7, 3) := by decide +kernel
theorem dM_instrumentsOf_98 : decode (xb yyM_instrumentsOf) 98 = .ok (.iload 6, 2) := by decide +kernel
theorem dM_instrumentsOf_100 : decode (xb yyM_instrumentsOf) 100 = .ok (.iconst 5, 1) := by decide +kernel
theorem dM_instrumentsOf_101 : decode (xb yyM_instrumentsOf) 101 = .ok (.iadd, 1) := by decide +kernel
theorem dM_instrumentsOf_102 : decode (xb yyM_instrumentsOf) 102 = .ok (.iaload, 1) := by decide +kernel
theorem dM_instrumentsOf_103 : decode (xb yyM_instrumentsOf) 103 = .ok (.if_icmp .ne 7, 3) := by decide +kernel
theorem dM_instrumentsOf_106 : decode (xb yyM_instrumentsOf) 106 = .ok (.iconst 1, 1) := by decide +kernel
theorem dM_instrumentsOf_107 : decode (xb yyM_instrumentsOf) 107 = .ok (.goto 4, 3) := by decide +kernel
theorem dM_instrumentsOf_110 : decode (xb yyM_instrumentsOf) 110 = .ok (.iconst 0, 1) := by decide +kernel
theorem dM_instrumentsOf_111 : decode (xb yyM_instrumentsOf) 111 = .ok (.istore 4, 2) := by decide +kernel
theorem dM_instrumentsOf_113 : decode (xb yyM_instrumentsOf) 113 = .ok (.iinc 5 1, 3) := by decide +kernel
theorem dM_instrumentsOf_116 : decode (xb yyM_instrumentsOf) 116 = .ok (.goto (-100), 3) := by decide +kernel
theorem dM_instrumentsOf_119 : decode (xb yyM_instrumentsOf) 119 = .ok (.iload_n 2, 1) := by decide +kernel
theorem dM_instrumentsOf_120 : decode (xb yyM_instrumentsOf) 120 = .ok (.iload 4, 2) := by decide +kernel
theorem dM_instrumentsOf_122 : decode (xb yyM_instrumentsOf) 122 = .ok (.ifCond .eq 9, 3) := by decide +kernel
theorem dM_instrumentsOf_125 : decode (xb yyM_instrumentsOf) 125 = .ok (.iconst 1, 1) := by decide +kernel
theorem dM_instrumentsOf_126 : decode (xb yyM_instrumentsOf) 126 = .ok (.iload_n 3, 1) := by decide +kernel
theorem dM_instrumentsOf_127 : decode (xb yyM_instrumentsOf) 127 = .ok (.ishl, 1) := by decide +kernel
theorem dM_instrumentsOf_128 : decode (xb yyM_instrumentsOf) 128 = .ok (.goto 4, 3) := by decide +kernel
theorem dM_instrumentsOf_131 : decode (xb yyM_instrumentsOf) 131 = .ok (.iconst 0, 1) := by decide +kernel
theorem dM_instrumentsOf_132 : decode (xb yyM_instrumentsOf) 132 = .ok (.ior, 1) := by decide +kernel
theorem dM_instrumentsOf_133 : decode (xb yyM_instrumentsOf) 133 = .ok (.istore_n 2, 1) := by decide +kernel
theorem dM_instrumentsOf_134 : decode (xb yyM_instrumentsOf) 134 = .ok (.iinc 3 1, 3) := by decide +kernel
theorem dM_instrumentsOf_137 : decode (xb yyM_instrumentsOf) 137 = .ok (.goto (-133), 3) := by decide +kernel
theorem dM_instrumentsOf_140 : decode (xb yyM_instrumentsOf) 140 = .ok (.iload_n 2, 1) := by decide +kernel
theorem dM_instrumentsOf_141 : decode (xb yyM_instrumentsOf) 141 = .ok (.ireturn, 1) := by decide +kernel
def fM_instrumentsOf_b132  (m : xM) (k4 : Int32 → Int32 → Int32 → Option (Int32)) (v1 : Int32) (v3 : Int32) (s0 : Int32) (s1 : Int32) : Option (Int32) := k4 v1 (s1 ||| s0) (v3 + 1)
def fM_instrumentsOf_b111  (m : xM) (k4 : Int32 → Int32 → Int32 → Option (Int32)) (k16 : Int32 → Int32 → Int32 → Int32 → Int32 → Option (Int32)) (v1 : Int32) (v2 : Int32) (v3 : Int32) (v5 : Int32) (s0 : Int32) : Option (Int32) := k16 v1 v2 v3 s0 (v5 + 1)
def fM_instrumentsOf_b110  (m : xM) (k4 : Int32 → Int32 → Int32 → Option (Int32)) (k16 : Int32 → Int32 → Int32 → Int32 → Int32 → Option (Int32)) (v1 : Int32) (v2 : Int32) (v3 : Int32) (v5 : Int32) : Option (Int32) := fM_instrumentsOf_b111 m k4 k16 v1 v2 v3 v5 (0 : Int32)
def fM_instrumentsOf_b106  (m : xM) (k4 : Int32 → Int32 → Int32 → Option (Int32)) (k16 : Int32 → Int32 → Int32 → Int32 → Int32 → Option (Int32)) (v1 : Int32) (v2 : Int32) (v3 : Int32) (v5 : Int32) : Option (Int32) := fM_instrumentsOf_b111 m k4 k16 v1 v2 v3 v5 (1 : Int32)
def fM_instrumentsOf_l16  (m : xM) (k4 : Int32 → Int32 → Int32 → Option (Int32)) : Nat → Int32 → Int32 → Int32 → Int32 → Int32 → Option (Int32)
  | 0, _, _, _, _, _ => none
  | n + 1, v1, v2, v3, v4, v5 => xck 1752 (92 : Int32) ((if (m.1 0 (92 : Int32).toNatClampNeg) ≤ v5 then (if v4 = 0 then fM_instrumentsOf_b132 m k4 v1 v3 (0 : Int32) v2 else fM_instrumentsOf_b132 m k4 v1 v3 ((1 : Int32) <<< (v3 &&& 31)) v2) else (if v4 = 0 then fM_instrumentsOf_b110 m k4 (fM_instrumentsOf_l16 m k4 n) v1 v2 v3 v5 else xck 1752 ((93 : Int32) + ((6 : Int32) * v5)) ((if (m.1 0 ((93 : Int32) + ((6 : Int32) * v5)).toNatClampNeg) = v1 then xck 1752 (((93 : Int32) + ((6 : Int32) * v5)) + (4 : Int32)) (xck 1752 (((93 : Int32) + ((6 : Int32) * v5)) + (1 : Int32)) (xck 1752 (((93 : Int32) + ((6 : Int32) * v5)) + (2 : Int32)) (xck 1752 (((93 : Int32) + ((6 : Int32) * v5)) + (3 : Int32)) ((fM_playOf v3 (m.1 0 (((93 : Int32) + ((6 : Int32) * v5)) + (4 : Int32)).toNatClampNeg) (m.1 0 (((93 : Int32) + ((6 : Int32) * v5)) + (1 : Int32)).toNatClampNeg) (m.1 0 (((93 : Int32) + ((6 : Int32) * v5)) + (2 : Int32)).toNatClampNeg) (m.1 0 (((93 : Int32) + ((6 : Int32) * v5)) + (3 : Int32)).toNatClampNeg)).bind fun r91 => xck 1752 (((93 : Int32) + ((6 : Int32) * v5)) + (5 : Int32)) ((if r91 = (m.1 0 (((93 : Int32) + ((6 : Int32) * v5)) + (5 : Int32)).toNatClampNeg) then fM_instrumentsOf_b106 m k4 (fM_instrumentsOf_l16 m k4 n) v1 v2 v3 v5 else fM_instrumentsOf_b110 m k4 (fM_instrumentsOf_l16 m k4 n) v1 v2 v3 v5)))))) else fM_instrumentsOf_b106 m k4 (fM_instrumentsOf_l16 m k4 n) v1 v2 v3 v5)))))
def fM_instrumentsOf_l4  (m : xM) : Nat → Int32 → Int32 → Int32 → Option (Int32)
  | 0, _, _, _ => none
  | n + 1, v1, v2, v3 => (if (6 : Int32) ≤ v3 then some v2 else fM_instrumentsOf_l16 m (fM_instrumentsOf_l4 m n) xfu v1 v2 v3 (1 : Int32) (0 : Int32))
def fM_instrumentsOf  (m : xM) (v1 : Int32) : Option (Int32) := fM_instrumentsOf_l4 m xfu v1 (0 : Int32) (0 : Int32)
set_option maxRecDepth 100000 in
set_option maxHeartbeats 4000000 in
theorem kM_instrumentsOf_b132 (G : xG)   (z : xM) (m : xM) (k4 : Int32 → Int32 → Int32 → Option (Int32)) (hk4 : ∀ (v1 : Int32) (v2 : Int32) (v3 : Int32), xR G yyM_instrumentsOf (emi (z, m)) 4 [(0, .ref (xa G 85)), (1, .int v1), (2, .int v2), (3, .int v3)] [] (z, m) (k4 v1 v2 v3)) (v1 : Int32) (v3 : Int32) (s0 : Int32) (s1 : Int32) : xR G yyM_instrumentsOf (emi (z, m)) 132 [(0, .ref (xa G 85)), (1, .int v1), (3, .int v3)] [.int s0, .int s1] (z, m) (fM_instrumentsOf_b132 m k4 v1 v3 s0 s1) := by
  unfold fM_instrumentsOf_b132
  refine xR_ior 132 dM_instrumentsOf_132 ?_
  refine xR_isn 133 ([(2, .int (s1 ||| s0)), (0, .ref (xa G 85)), (1, .int v1), (3, .int v3)]) dM_instrumentsOf_133 rfl (by decide) rfl ?_
  refine xR_iinc 134 3 (v3 + 1) ([(3, .int (v3 + 1)), (2, .int (s1 ||| s0)), (0, .ref (xa G 85)), (1, .int v1)]) dM_instrumentsOf_134 rfl rfl (by decide) rfl ?_
  refine xR_goto 137 4 dM_instrumentsOf_137 (by decide) ?_
  exact xR_sub [2, 3, 1, 0] rfl (hk4 v1 (s1 ||| s0) (v3 + 1))
set_option maxRecDepth 100000 in
set_option maxHeartbeats 4000000 in
theorem kM_instrumentsOf_b111 (G : xG)   (z : xM) (m : xM) (k4 : Int32 → Int32 → Int32 → Option (Int32)) (k16 : Int32 → Int32 → Int32 → Int32 → Int32 → Option (Int32)) (hk4 : ∀ (v1 : Int32) (v2 : Int32) (v3 : Int32), xR G yyM_instrumentsOf (emi (z, m)) 4 [(0, .ref (xa G 85)), (1, .int v1), (2, .int v2), (3, .int v3)] [] (z, m) (k4 v1 v2 v3)) (hk16 : ∀ (v1 : Int32) (v2 : Int32) (v3 : Int32) (v4 : Int32) (v5 : Int32), xR G yyM_instrumentsOf (emi (z, m)) 16 [(0, .ref (xa G 85)), (1, .int v1), (2, .int v2), (3, .int v3), (4, .int v4), (5, .int v5)] [] (z, m) (k16 v1 v2 v3 v4 v5)) (v1 : Int32) (v2 : Int32) (v3 : Int32) (v5 : Int32) (s0 : Int32) : xR G yyM_instrumentsOf (emi (z, m)) 111 [(0, .ref (xa G 85)), (1, .int v1), (2, .int v2), (3, .int v3), (5, .int v5)] [.int s0] (z, m) (fM_instrumentsOf_b111 m k4 k16 v1 v2 v3 v5 s0) := by
  unfold fM_instrumentsOf_b111
  refine xR_is 111 ([(4, .int s0), (0, .ref (xa G 85)), (1, .int v1), (2, .int v2), (3, .int v3), (5, .int v5)]) dM_instrumentsOf_111 (by decide) rfl ?_
  refine xR_iinc 113 5 (v5 + 1) ([(5, .int (v5 + 1)), (4, .int s0), (0, .ref (xa G 85)), (1, .int v1), (2, .int v2), (3, .int v3)]) dM_instrumentsOf_113 rfl rfl (by decide) rfl ?_
  refine xR_goto 116 16 dM_instrumentsOf_116 (by decide) ?_
  exact xR_sub [2, 3, 4, 5, 1, 0] rfl (hk16 v1 v2 v3 s0 (v5 + 1))
set_option maxRecDepth 100000 in
set_option maxHeartbeats 4000000 in
theorem kM_instrumentsOf_b110 (G : xG)   (z : xM) (m : xM) (k4 : Int32 → Int32 → Int32 → Option (Int32)) (k16 : Int32 → Int32 → Int32 → Int32 → Int32 → Option (Int32)) (hk4 : ∀ (v1 : Int32) (v2 : Int32) (v3 : Int32), xR G yyM_instrumentsOf (emi (z, m)) 4 [(0, .ref (xa G 85)), (1, .int v1), (2, .int v2), (3, .int v3)] [] (z, m) (k4 v1 v2 v3)) (hk16 : ∀ (v1 : Int32) (v2 : Int32) (v3 : Int32) (v4 : Int32) (v5 : Int32), xR G yyM_instrumentsOf (emi (z, m)) 16 [(0, .ref (xa G 85)), (1, .int v1), (2, .int v2), (3, .int v3), (4, .int v4), (5, .int v5)] [] (z, m) (k16 v1 v2 v3 v4 v5)) (v1 : Int32) (v2 : Int32) (v3 : Int32) (v5 : Int32) : xR G yyM_instrumentsOf (emi (z, m)) 110 [(0, .ref (xa G 85)), (1, .int v1), (2, .int v2), (3, .int v3), (5, .int v5)] [] (z, m) (fM_instrumentsOf_b110 m k4 k16 v1 v2 v3 v5) := by
  unfold fM_instrumentsOf_b110
  refine xR_ic 110 (0 : Int32) dM_instrumentsOf_110 (by decide) ?_
  exact kM_instrumentsOf_b111 G z m k4 k16 hk4 hk16 v1 v2 v3 v5 (0 : Int32)
set_option maxRecDepth 100000 in
set_option maxHeartbeats 4000000 in
theorem kM_instrumentsOf_b106 (G : xG)   (z : xM) (m : xM) (k4 : Int32 → Int32 → Int32 → Option (Int32)) (k16 : Int32 → Int32 → Int32 → Int32 → Int32 → Option (Int32)) (hk4 : ∀ (v1 : Int32) (v2 : Int32) (v3 : Int32), xR G yyM_instrumentsOf (emi (z, m)) 4 [(0, .ref (xa G 85)), (1, .int v1), (2, .int v2), (3, .int v3)] [] (z, m) (k4 v1 v2 v3)) (hk16 : ∀ (v1 : Int32) (v2 : Int32) (v3 : Int32) (v4 : Int32) (v5 : Int32), xR G yyM_instrumentsOf (emi (z, m)) 16 [(0, .ref (xa G 85)), (1, .int v1), (2, .int v2), (3, .int v3), (4, .int v4), (5, .int v5)] [] (z, m) (k16 v1 v2 v3 v4 v5)) (v1 : Int32) (v2 : Int32) (v3 : Int32) (v5 : Int32) : xR G yyM_instrumentsOf (emi (z, m)) 106 [(0, .ref (xa G 85)), (1, .int v1), (2, .int v2), (3, .int v3), (5, .int v5)] [] (z, m) (fM_instrumentsOf_b106 m k4 k16 v1 v2 v3 v5) := by
  unfold fM_instrumentsOf_b106
  refine xR_ic 106 (1 : Int32) dM_instrumentsOf_106 (by decide) ?_
  refine xR_goto 107 111 dM_instrumentsOf_107 (by decide) ?_
  exact kM_instrumentsOf_b111 G z m k4 k16 hk4 hk16 v1 v2 v3 v5 (1 : Int32)
set_option maxRecDepth 100000 in
set_option maxHeartbeats 4000000 in
theorem kM_instrumentsOf_l16 (G : xG)   (z : xM) (m : xM) (k4 : Int32 → Int32 → Int32 → Option (Int32)) (hk4 : ∀ (v1 : Int32) (v2 : Int32) (v3 : Int32), xR G yyM_instrumentsOf (emi (z, m)) 4 [(0, .ref (xa G 85)), (1, .int v1), (2, .int v2), (3, .int v3)] [] (z, m) (k4 v1 v2 v3)) : ∀ (n : Nat) (v1 : Int32) (v2 : Int32) (v3 : Int32) (v4 : Int32) (v5 : Int32), xR G yyM_instrumentsOf (emi (z, m)) 16 [(0, .ref (xa G 85)), (1, .int v1), (2, .int v2), (3, .int v3), (4, .int v4), (5, .int v5)] [] (z, m) (fM_instrumentsOf_l16 m k4 n v1 v2 v3 v4 v5) := by
  intro n
  induction n with
  | zero =>
    intro v1 v2 v3 v4 v5
    rw [fM_instrumentsOf_l16]
    exact xR_none
  | succ n ih =>
    intro v1 v2 v3 v4 v5
    rw [fM_instrumentsOf_l16]
    refine xR_il 16 5 dM_instrumentsOf_16 rfl ?_
    refine xR_aln 18 0 dM_instrumentsOf_18 rfl rfl ?_
    refine xR_getf 19 xcf7 0 85 (by decide) (by decide) rfl (v := .ref (xa G 86)) rfl fl_RX9_7 dM_instrumentsOf_19 ?_
    refine xR_bp 22 (92 : Int32) dM_instrumentsOf_22 (by decide) ?_
    refine xR_iald 24 86 (by decide) rfl dM_instrumentsOf_24 ?_
    refine xR_icge 25 119 dM_instrumentsOf_25 (by decide) ?_ ?_
    · refine xR_iln 119 2 dM_instrumentsOf_119 rfl rfl ?_
      refine xR_il 120 4 dM_instrumentsOf_120 rfl ?_
      refine xR_ifeq 122 131 dM_instrumentsOf_122 (by decide) ?_ ?_
      · refine xR_ic 131 (0 : Int32) dM_instrumentsOf_131 (by decide) ?_
        exact xR_sub [0, 1, 3] rfl (kM_instrumentsOf_b132 G z m k4 hk4 v1 v3 (0 : Int32) v2)
      · refine xR_ic 125 (1 : Int32) dM_instrumentsOf_125 (by decide) ?_
        refine xR_iln 126 3 dM_instrumentsOf_126 rfl rfl ?_
        refine xR_ishl 127 dM_instrumentsOf_127 ?_
        refine xR_goto 128 132 dM_instrumentsOf_128 (by decide) ?_
        exact xR_sub [0, 1, 3] rfl (kM_instrumentsOf_b132 G z m k4 hk4 v1 v3 ((1 : Int32) <<< (v3 &&& 31)) v2)
    · refine xR_bp 28 (93 : Int32) dM_instrumentsOf_28 (by decide) ?_
      refine xR_bp 30 (6 : Int32) dM_instrumentsOf_30 (by decide) ?_
      refine xR_il 32 5 dM_instrumentsOf_32 rfl ?_
      refine xR_imul 34 dM_instrumentsOf_34 ?_
      refine xR_iadd 35 dM_instrumentsOf_35 ?_
      refine xR_is 36 ([(6, .int ((93 : Int32) + ((6 : Int32) * v5))), (0, .ref (xa G 85)), (1, .int v1), (2, .int v2), (3, .int v3), (4, .int v4), (5, .int v5)]) dM_instrumentsOf_36 (by decide) rfl ?_
      refine xR_il 38 5 dM_instrumentsOf_38 rfl ?_
      refine xR_ifeq 40 110 dM_instrumentsOf_40 (by decide) ?_ ?_
      · exact xR_sub [1, 2, 3, 4, 6] rfl (kM_instrumentsOf_b110 G z m k4 (fM_instrumentsOf_l16 m k4 n) hk4 ih v1 v2 v3 v5)
      · refine xR_aln 43 1 dM_instrumentsOf_43 rfl rfl ?_
        refine xR_getf 44 xcf7 0 85 (by decide) (by decide) rfl (v := .ref (xa G 86)) rfl fl_RX9_7 dM_instrumentsOf_44 ?_
        refine xR_il 47 0 dM_instrumentsOf_47 rfl ?_
        refine xR_iald 49 86 (by decide) rfl dM_instrumentsOf_49 ?_
        refine xR_iln 50 2 dM_instrumentsOf_50 rfl rfl ?_
        refine xR_icne 51 106 dM_instrumentsOf_51 (by decide) ?_ ?_
        · exact xR_sub [1, 2, 3, 4, 6] rfl (kM_instrumentsOf_b106 G z m k4 (fM_instrumentsOf_l16 m k4 n) hk4 ih v1 v2 v3 v5)
        · refine xR_iln 54 4 dM_instrumentsOf_54 rfl rfl ?_
          refine xR_aln 55 1 dM_instrumentsOf_55 rfl rfl ?_
          refine xR_getf 56 xcf7 0 85 (by decide) (by decide) rfl (v := .ref (xa G 86)) rfl fl_RX9_7 dM_instrumentsOf_56 ?_
          refine xR_il 59 0 dM_instrumentsOf_59 rfl ?_
          refine xR_ic 61 (4 : Int32) dM_instrumentsOf_61 (by decide) ?_
          refine xR_iadd 62 dM_instrumentsOf_62 ?_
          refine xR_iald 63 86 (by decide) rfl dM_instrumentsOf_63 ?_
          refine xR_aln 64 1 dM_instrumentsOf_64 rfl rfl ?_
          refine xR_getf 65 xcf7 0 85 (by decide) (by decide) rfl (v := .ref (xa G 86)) rfl fl_RX9_7 dM_instrumentsOf_65 ?_
          refine xR_il 68 0 dM_instrumentsOf_68 rfl ?_
          refine xR_ic 70 (1 : Int32) dM_instrumentsOf_70 (by decide) ?_
          refine xR_iadd 71 dM_instrumentsOf_71 ?_
          refine xR_iald 72 86 (by decide) rfl dM_instrumentsOf_72 ?_
          refine xR_aln 73 1 dM_instrumentsOf_73 rfl rfl ?_
          refine xR_getf 74 xcf7 0 85 (by decide) (by decide) rfl (v := .ref (xa G 86)) rfl fl_RX9_7 dM_instrumentsOf_74 ?_
          refine xR_il 77 0 dM_instrumentsOf_77 rfl ?_
          refine xR_ic 79 (2 : Int32) dM_instrumentsOf_79 (by decide) ?_
          refine xR_iadd 80 dM_instrumentsOf_80 ?_
          refine xR_iald 81 86 (by decide) rfl dM_instrumentsOf_81 ?_
          refine xR_aln 82 1 dM_instrumentsOf_82 rfl rfl ?_
          refine xR_getf 83 xcf7 0 85 (by decide) (by decide) rfl (v := .ref (xa G 86)) rfl fl_RX9_7 dM_instrumentsOf_83 ?_
          refine xR_il 86 0 dM_instrumentsOf_86 rfl ?_
          refine xR_ic 88 (3 : Int32) dM_instrumentsOf_88 (by decide) ?_
          refine xR_iadd 89 dM_instrumentsOf_89 ?_
          refine xR_iald 90 86 (by decide) rfl dM_instrumentsOf_90 ?_
          refine xR_callSi 91 cs_M_playOf ml_RX9_202 ⟨Nat.le_of_ble_eq_true rfl, Nat.le_of_ble_eq_true rfl⟩ [.int v3, .int (m.1 0 (((93 : Int32) + ((6 : Int32) * v5)) + (4 : Int32)).toNatClampNeg), .int (m.1 0 (((93 : Int32) + ((6 : Int32) * v5)) + (1 : Int32)).toNatClampNeg), .int (m.1 0 (((93 : Int32) + ((6 : Int32) * v5)) + (2 : Int32)).toNatClampNeg), .int (m.1 0 (((93 : Int32) + ((6 : Int32) * v5)) + (3 : Int32)).toNatClampNeg)] rfl rfl (Nat.le_of_ble_eq_true rfl) dM_instrumentsOf_91 (kM_playOf G (z, m) v3 (m.1 0 (((93 : Int32) + ((6 : Int32) * v5)) + (4 : Int32)).toNatClampNeg) (m.1 0 (((93 : Int32) + ((6 : Int32) * v5)) + (1 : Int32)).toNatClampNeg) (m.1 0 (((93 : Int32) + ((6 : Int32) * v5)) + (2 : Int32)).toNatClampNeg) (m.1 0 (((93 : Int32) + ((6 : Int32) * v5)) + (3 : Int32)).toNatClampNeg)) (fun r91 => ?_)
          refine xR_aln 94 1 dM_instrumentsOf_94 rfl rfl ?_
          refine xR_getf 95 xcf7 0 85 (by decide) (by decide) rfl (v := .ref (xa G 86)) rfl fl_RX9_7 dM_instrumentsOf_95 ?_
          refine xR_il 98 0 dM_instrumentsOf_98 rfl ?_
          refine xR_ic 100 (5 : Int32) dM_instrumentsOf_100 (by decide) ?_
          refine xR_iadd 101 dM_instrumentsOf_101 ?_
          refine xR_iald 102 86 (by decide) rfl dM_instrumentsOf_102 ?_
          refine xR_icne 103 110 dM_instrumentsOf_103 (by decide) ?_ ?_
          · exact xR_sub [1, 2, 3, 4, 6] rfl (kM_instrumentsOf_b110 G z m k4 (fM_instrumentsOf_l16 m k4 n) hk4 ih v1 v2 v3 v5)
          · exact xR_sub [1, 2, 3, 4, 6] rfl (kM_instrumentsOf_b106 G z m k4 (fM_instrumentsOf_l16 m k4 n) hk4 ih v1 v2 v3 v5)
set_option maxRecDepth 100000 in
set_option maxHeartbeats 4000000 in
theorem kM_instrumentsOf_l4 (G : xG)   (z : xM) (m : xM)   : ∀ (n : Nat) (v1 : Int32) (v2 : Int32) (v3 : Int32), xR G yyM_instrumentsOf (emi (z, m)) 4 [(0, .ref (xa G 85)), (1, .int v1), (2, .int v2), (3, .int v3)] [] (z, m) (fM_instrumentsOf_l4 m n v1 v2 v3) := by
  intro n
  induction n with
  | zero =>
    intro v1 v2 v3
    rw [fM_instrumentsOf_l4]
    exact xR_none
  | succ n ih =>
    intro v1 v2 v3
    rw [fM_instrumentsOf_l4]
    refine xR_iln 4 3 dM_instrumentsOf_4 rfl rfl ?_
    refine xR_bp 5 (6 : Int32) dM_instrumentsOf_5 (by decide) ?_
    refine xR_icge 7 140 dM_instrumentsOf_7 (by decide) ?_ ?_
    · refine xR_iln 140 2 dM_instrumentsOf_140 rfl rfl ?_
      exact xR_iret 141 rfl rfl dM_instrumentsOf_141
    · refine xR_ic 10 (1 : Int32) dM_instrumentsOf_10 (by decide) ?_
      refine xR_is 11 ([(4, .int (1 : Int32)), (0, .ref (xa G 85)), (1, .int v1), (2, .int v2), (3, .int v3)]) dM_instrumentsOf_11 (by decide) rfl ?_
      refine xR_ic 13 (0 : Int32) dM_instrumentsOf_13 (by decide) ?_
      refine xR_is 14 ([(5, .int (0 : Int32)), (4, .int (1 : Int32)), (0, .ref (xa G 85)), (1, .int v1), (2, .int v2), (3, .int v3)]) dM_instrumentsOf_14 (by decide) rfl ?_
      exact xR_sub [2, 3, 4, 5, 1, 0] rfl (kM_instrumentsOf_l16 G z m (fM_instrumentsOf_l4 m n) ih xfu v1 v2 v3 (1 : Int32) (0 : Int32))
set_option maxRecDepth 100000 in
set_option maxHeartbeats 4000000 in
theorem kM_instrumentsOf (G : xG)   (z : xM) (m : xM) (v1 : Int32) : ∀ a, fM_instrumentsOf m v1 = some a → xCt G yyM_instrumentsOf [.ref (xa G 85), .int v1] (z, m) (some (.int a)) (z, m) := by
  refine xR_ct (em := (emi (z, m))) rfl (Nat.le_of_ble_eq_true rfl) ?_
  show xR G yyM_instrumentsOf _ 0 [(0, .ref (xa G 85)), (1, .int v1)] [] _ _
  unfold fM_instrumentsOf
  refine xR_ic 0 (0 : Int32) dM_instrumentsOf_0 (by decide) ?_
  refine xR_isn 1 ([(2, .int (0 : Int32)), (0, .ref (xa G 85)), (1, .int v1)]) dM_instrumentsOf_1 rfl (by decide) rfl ?_
  refine xR_ic 2 (0 : Int32) dM_instrumentsOf_2 (by decide) ?_
  refine xR_isn 3 ([(3, .int (0 : Int32)), (2, .int (0 : Int32)), (0, .ref (xa G 85)), (1, .int v1)]) dM_instrumentsOf_3 rfl (by decide) rfl ?_
  exact xR_sub [2, 3, 1, 0] rfl (kM_instrumentsOf_l4 G z m xfu v1 (0 : Int32) (0 : Int32))
theorem dM_kinds_0 : decode (xb yyM_kinds) 0 = .ok (.aload_n 0, 1) := by decide +kernel
theorem dM_kinds_1 : decode (xb yyM_kinds) 1 = .ok (.iload_n 1, 1) := by decide +kernel
theorem dM_kinds_2 : decode (xb yyM_kinds) 2 = .ok (.invokevirtual 177, 3) := by decide +kernel
theorem dM_kinds_5 : decode (xb yyM_kinds) 5 = .ok (.ifCond .eq 11, 3) := by decide +kernel
theorem dM_kinds_8 : decode (xb yyM_kinds) 8 = .ok (.aload_n 0, 1) := by decide +kernel
theorem dM_kinds_9 : decode (xb yyM_kinds) 9 = .ok (.iload_n 1, 1) := by decide +kernel
theorem dM_kinds_10 : decode (xb yyM_kinds) 10 = .ok (.invokevirtual 246, 3) := by decide +kernel
theorem dM_kinds_13 : decode (xb yyM_kinds) 13 = .ok (.goto 9, 3) := by decide +kernel
theorem dM_kinds_16 : decode (xb yyM_kinds) 16 = .ok (.aload_n 0, 1) := by decide +kernel
theorem dM_kinds_17 : decode (xb yyM_kinds) 17 = .ok (.bipush (-2), 2) := by decide +kernel
theorem dM_kinds_19 : decode (xb yyM_kinds) 19 = .ok (.invokevirtual 66, 3) := by decide +kernel
theorem dM_kinds_22 : decode (xb yyM_kinds) 22 = .ok (.ireturn, 1) := by decide +kernel
def fM_kinds  (v1 : Int32) (m : xM) : Option (Int32 × xM) := (fM_isInstrument m v1).bind fun r2 => (if r2 = 0 then (fM_bad (-2 : Int32) m).bind fun r19 => some (r19.1, r19.2) else (fM_instrumentsOf m v1).bind fun r10 => some (r10, m))
set_option maxRecDepth 100000 in
set_option maxHeartbeats 4000000 in
theorem kM_kinds (G : xG)   (z : xM) (m : xM) (v1 : Int32) : ∀ a, fM_kinds  v1 m = some a → xCt G yyM_kinds [.ref (xa G 85), .int v1] (z, m) (some (.int a.1)) (z, a.2) := by
  refine xR_ct (em := (emim z)) rfl (Nat.le_of_ble_eq_true rfl) ?_
  show xR G yyM_kinds _ 0 [(0, .ref (xa G 85)), (1, .int v1)] [] _ _
  unfold fM_kinds
  refine xR_aln 0 0 dM_kinds_0 rfl rfl ?_
  refine xR_iln 1 1 dM_kinds_1 rfl rfl ?_
  refine xR_callVi 2 cv_M_isInstrument ml_RX9_177 ⟨Nat.le_of_ble_eq_true rfl, Nat.le_of_ble_eq_true rfl⟩ xcf7 rfl 85 (by decide) rfl [.int v1] rfl rfl (Nat.le_of_ble_eq_true rfl) dM_kinds_2 (kM_isInstrument G z m v1) (fun r2 => ?_)
  refine xR_ifeq 5 16 dM_kinds_5 (by decide) ?_ ?_
  · refine xR_aln 16 0 dM_kinds_16 rfl rfl ?_
    refine xR_bp 17 (-2 : Int32) dM_kinds_17 (by decide) ?_
    refine xR_callVim 19 cv_M_bad ml_RX9_66 ⟨Nat.le_of_ble_eq_true rfl, Nat.le_of_ble_eq_true rfl⟩ xcf7 rfl 85 (by decide) rfl [.int (-2 : Int32)] rfl rfl (Nat.le_of_ble_eq_true rfl) dM_kinds_19 (kM_bad G z m (-2 : Int32)) (fun r19 => ?_)
    exact xR_iret 22 rfl rfl dM_kinds_22
  · refine xR_aln 8 0 dM_kinds_8 rfl rfl ?_
    refine xR_iln 9 1 dM_kinds_9 rfl rfl ?_
    refine xR_callVi 10 cv_M_instrumentsOf ml_RX9_246 ⟨Nat.le_of_ble_eq_true rfl, Nat.le_of_ble_eq_true rfl⟩ xcf7 rfl 85 (by decide) rfl [.int v1] rfl rfl (Nat.le_of_ble_eq_true rfl) dM_kinds_10 (kM_instrumentsOf G z m v1) (fun r10 => ?_)
    refine xR_goto 13 22 dM_kinds_13 (by decide) ?_
    exact xR_iret 22 rfl rfl dM_kinds_22
theorem dM_ask_0 : decode (xb yyM_ask) 0 = .ok (.aload_n 0, 1) := by decide +kernel
theorem dM_ask_1 : decode (xb yyM_ask) 1 = .ok (.iload_n 1, 1) := by decide +kernel
theorem dM_ask_2 : decode (xb yyM_ask) 2 = .ok (.invokevirtual 177, 3) := by decide +kernel
theorem dM_ask_5 : decode (xb yyM_ask) 5 = .ok (.ifCond .ne 10, 3) := by decide +kernel
theorem dM_ask_8 : decode (xb yyM_ask) 8 = .ok (.aload_n 0, 1) := by decide +kernel
theorem dM_ask_9 : decode (xb yyM_ask) 9 = .ok (.bipush (-2), 2) := by decide +kernel
theorem dM_ask_11 : decode (xb yyM_ask) 11 = .ok (.invokevirtual 66, 3) := by decide +kernel
theorem dM_ask_14 : decode (xb yyM_ask) 14 = .ok (.ireturn, 1) := by decide +kernel
theorem dM_ask_15 : decode (xb yyM_ask) 15 = .ok (.aload_n 0, 1) := by decide +kernel
theorem dM_ask_16 : decode (xb yyM_ask) 16 = .ok (.iload_n 1, 1) := by decide +kernel
theorem dM_ask_17 : decode (xb yyM_ask) 17 = .ok (.invokevirtual 246, 3) := by decide +kernel
theorem dM_ask_20 : decode (xb yyM_ask) 20 = .ok (.istore_n 2, 1) := by decide +kernel
theorem dM_ask_21 : decode (xb yyM_ask) 21 = .ok (.iconst (-1), 1) := by decide +kernel
theorem dM_ask_22 : decode (xb yyM_ask) 22 = .ok (.istore_n 3, 1) := by decide +kernel
theorem dM_ask_23 : decode (xb yyM_ask) 23 = .ok (.ldc 223, 2) := by decide +kernel
theorem dM_ask_25 : decode (xb yyM_ask) 25 = .ok (.istore 4, 2) := by decide +kernel
theorem dM_ask_27 : decode (xb yyM_ask) 27 = .ok (.iconst 0, 1) := by decide +kernel
theorem dM_ask_28 : decode (xb yyM_ask) 28 = .ok (.istore 5, 2) := by decide +kernel
theorem dM_ask_30 : decode (xb yyM_ask) 30 = .ok (.iload 5, 2) := by decide +kernel
theorem dM_ask_32 : decode (xb yyM_ask) 32 = .ok (.bipush 100, 2) := by decide +kernel
theorem dM_ask_34 : decode (xb yyM_ask) 34 = .ok (.if_icmp .ge 119, 3) := by decide +kernel
theorem dM_ask_37 : decode (xb yyM_ask) 37 = .ok (.iload_n 2, 1) := by decide +kernel
theorem dM_ask_38 : decode (xb yyM_ask) 38 = .ok (.ifCond .le 115, 3) := by decide +kernel
theorem dM_ask_41 : decode (xb yyM_ask) 41 = .ok (.iload 5, 2) := by decide +kernel
theorem dM_ask_43 : decode (xb yyM_ask) 43 = .ok (.bipush 25, 2) := by decide +kernel
theorem dM_ask_45 : decode (xb yyM_ask) 45 = .ok (.idiv, 1) := by decide +kernel
theorem dM_ask_46 : decode (xb yyM_ask) 46 = .ok (.istore 6, 2) := by decide +kernel
theorem dM_ask_48 : decode (xb yyM_ask) 48 = .ok (.iload 5, 2) := by decide +kernel
theorem dM_ask_50 : decode (xb yyM_ask) 50 = .ok (.iconst 5, 1) := by decide +kernel
theorem dM_ask_51 : decode (xb yyM_ask) 51 = .ok (.idiv, 1) := by decide +kernel
theorem dM_ask_52 : decode (xb yyM_ask) 52 = .ok (.iconst 5, 1) := by decide +kernel
theorem dM_ask_53 : decode (xb yyM_ask) 53 = .ok (.irem, 1) := by decide +kernel
theorem dM_ask_54 : decode (xb yyM_ask) 54 = .ok (.istore 7, 2) := by decide +kernel
theorem dM_ask_56 : decode (xb yyM_ask) 56 = .ok (.iload 5, 2) := by decide +kernel
theorem dM_ask_58 : decode (xb yyM_ask) 58 = .ok (.iconst 5, 1) := by decide +kernel
theorem dM_ask_59 : decode (xb yyM_ask) 59 = .ok (.irem, 1) := by decide +kernel
theorem dM_ask_60 : decode (xb yyM_ask) 60 = .ok (.istore 8, 2) := by decide +kernel
theorem dM_ask_62 : decode (xb yyM_ask) 62 = .ok (.iconst 0, 1) := by decide +kernel
theorem dM_ask_63 : decode (xb yyM_ask) 63 = .ok (.istore 9, 2) := by decide +kernel
theorem dM_ask_65 : decode (xb yyM_ask) 65 = .ok (.iload 9, 2) := by decide +kernel
theorem dM_ask_67 : decode (xb yyM_ask) 67 = .ok (.bipush 6, 2) := by decide +kernel
theorem dM_ask_69 : decode (xb yyM_ask) 69 = .ok (.if_icmp .ge 29, 3) := by decide +kernel
theorem dM_ask_72 : decode (xb yyM_ask) 72 = .ok (.aload_n 0, 1) := by decide +kernel
theorem dM_ask_73 : decode (xb yyM_ask) 73 = .ok (.getfield 33, 3) := by decide +kernel
theorem dM_ask_76 : decode (xb yyM_ask) 76 = .ok (.iload 9, 2) := by decide +kernel
theorem dM_ask_78 : decode (xb yyM_ask) 78 = .ok (.iload 9, 2) := by decide +kernel
theorem dM_ask_80 : decode (xb yyM_ask) 80 = .ok (.iload 6, 2) := by decide +kernel
theorem dM_ask_82 : decode (xb yyM_ask) 82 = .ok (.bipush 20, 2) := by decide +kernel
theorem dM_ask_84 : decode (xb yyM_ask) 84 = .ok (.iload 7, 2) := by decide +kernel
theorem dM_ask_86 : decode (xb yyM_ask) 86 = .ok (.iload 8, 2) := by decide +kernel
theorem dM_ask_88 : decode (xb yyM_ask) 88 = .ok (.invokestatic 202, 3) := by decide +kernel
theorem dM_ask_91 : decode (xb yyM_ask) 91 = .ok (.iastore, 1) := by decide +kernel
theorem dM_ask_92 : decode (xb yyM_ask) 92 = .ok (.iinc 9 1, 3) := by decide +kernel
theorem dM_ask_95 : decode (xb yyM_ask) 95 = .ok (.goto (-30), 3) := by decide +kernel
theorem dM_ask_98 : decode (xb yyM_ask) 98 = .ok (.aload_n 0, 1) := by decide +kernel
theorem dM_ask_99 : decode (xb yyM_ask) 99 = .ok (.iload_n 2, 1) := by decide +kernel
theorem dM_ask_100 : decode (xb yyM_ask) 100 = .ok (.invokevirtual 238, 3) := by decide +kernel
theorem dM_ask_103 : decode (xb yyM_ask) 103 = .ok (.istore 9, 2) := by decide +kernel
theorem dM_ask_105 : decode (xb yyM_ask) 105 = .ok (.iload 9, 2) := by decide +kernel
theorem dM_ask_107 : decode (xb yyM_ask) 107 = .ok (.iload 4, 2) := by decide +kernel
theorem dM_ask_109 : decode (xb yyM_ask) 109 = .ok (.if_icmp .ge 20, 3) := by decide +kernel
theorem dM_ask_112 : decode (xb yyM_ask) 112 = .ok (.bipush 100, 2) := by decide +kernel
theorem dM_ask_114 : decode (xb yyM_ask) 114 = .ok (.iload 6, 2) := by decide +kernel
theorem dM_ask_116 : decode (xb yyM_ask) 116 = .ok (.imul, 1) := by decide +kernel
theorem dM_ask_117 : decode (xb yyM_ask) 117 = .ok (.bipush 10, 2) := by decide +kernel
theorem dM_ask_119 : decode (xb yyM_ask) 119 = .ok (.iload 7, 2) := by decide +kernel
theorem dM_ask_121 : decode (xb yyM_ask) 121 = .ok (.imul, 1) := by decide +kernel
theorem dM_ask_122 : decode (xb yyM_ask) 122 = .ok (.iadd, 1) := by decide +kernel
theorem dM_ask_123 : decode (xb yyM_ask) 123 = .ok (.iload 8, 2) := by decide +kernel
theorem dM_ask_125 : decode (xb yyM_ask) 125 = .ok (.iadd, 1) := by decide +kernel
theorem dM_ask_126 : decode (xb yyM_ask) 126 = .ok (.goto 4, 3) := by decide +kernel
theorem dM_ask_129 : decode (xb yyM_ask) 129 = .ok (.iload_n 3, 1) := by decide +kernel
theorem dM_ask_130 : decode (xb yyM_ask) 130 = .ok (.istore_n 3, 1) := by decide +kernel
theorem dM_ask_131 : decode (xb yyM_ask) 131 = .ok (.iload 9, 2) := by decide +kernel
theorem dM_ask_133 : decode (xb yyM_ask) 133 = .ok (.iload 4, 2) := by decide +kernel
theorem dM_ask_135 : decode (xb yyM_ask) 135 = .ok (.if_icmp .ge 8, 3) := by decide +kernel
theorem dM_ask_138 : decode (xb yyM_ask) 138 = .ok (.iload 9, 2) := by decide +kernel
theorem dM_ask_140 : decode (xb yyM_ask) 140 = .ok (.goto 5, 3) := by decide +kernel
theorem dM_ask_143 : decode (xb yyM_ask) 143 = .ok (.iload 4, 2) := by decide +kernel
theorem dM_ask_145 : decode (xb yyM_ask) 145 = .ok (.istore 4, 2) := by decide +kernel
theorem dM_ask_147 : decode (xb yyM_ask) 147 = .ok (.iinc 5 1, 3) := by decide +kernel
theorem dM_ask_150 : decode (xb yyM_ask) 150 = .ok (.goto (-120), 3) := by decide +kernel
theorem dM_ask_153 : decode (xb yyM_ask) 153 = .ok (.iload_n 3, 1) := by decide +kernel
theorem dM_ask_154 : decode (xb yyM_ask) 154 = .ok (.ireturn, 1) := by decide +kernel
def fM_ask_b145 (k30 : Int32 → Int32 → Int32 → Int32 → xM → Option (Int32 × xM)) (v2 : Int32) (v3 : Int32) (v5 : Int32) (s0 : Int32) (m : xM) : Option (Int32 × xM) := k30 v2 v3 s0 (v5 + 1) m
def fM_ask_b130 (k30 : Int32 → Int32 → Int32 → Int32 → xM → Option (Int32 × xM)) (v2 : Int32) (v4 : Int32) (v5 : Int32) (v9 : Int32) (s0 : Int32) (m : xM) : Option (Int32 × xM) := (if v4 ≤ v9 then fM_ask_b145 k30 v2 s0 v5 v4 m else fM_ask_b145 k30 v2 s0 v5 v9 m)
def fM_ask_l65 (k30 : Int32 → Int32 → Int32 → Int32 → xM → Option (Int32 × xM)) : Nat → Int32 → Int32 → Int32 → Int32 → Int32 → Int32 → Int32 → Int32 → xM → Option (Int32 × xM)
  | 0, _, _, _, _, _, _, _, _, _ => none
  | n + 1, v2, v3, v4, v5, v6, v7, v8, v9, m => (if (6 : Int32) ≤ v9 then (fM_greatest m v2).bind fun r100 => (if v4 ≤ r100 then fM_ask_b130 k30 v2 v4 v5 r100 v3 m else fM_ask_b130 k30 v2 v4 v5 r100 ((((100 : Int32) * v6) + ((10 : Int32) * v7)) + v8) m) else (fM_playOf v9 v6 (20 : Int32) v7 v8).bind fun r88 => xck 6 v9 (fM_ask_l65 k30 n v2 v3 v4 v5 v6 v7 v8 (v9 + 1) (xset m 5 v9.toNatClampNeg r88)))
def fM_ask_l30  : Nat → Int32 → Int32 → Int32 → Int32 → xM → Option (Int32 × xM)
  | 0, _, _, _, _, _ => none
  | n + 1, v2, v3, v4, v5, m => (if (100 : Int32) ≤ v5 then some (v3, m) else (if v2 ≤ 0 then some (v3, m) else fM_ask_l65 (fM_ask_l30 n) xfu v2 v3 v4 v5 (v5 / (25 : Int32)) ((v5 / (5 : Int32)) - (v5 / (5 : Int32)) / (5 : Int32) * (5 : Int32)) (v5 - v5 / (5 : Int32) * (5 : Int32)) (0 : Int32) m))
def fM_ask  (v1 : Int32) (m : xM) : Option (Int32 × xM) := (fM_isInstrument m v1).bind fun r2 => (if r2 = 0 then (fM_bad (-2 : Int32) m).bind fun r11 => some (r11.1, r11.2) else (fM_instrumentsOf m v1).bind fun r17 => fM_ask_l30 xfu r17 (-1 : Int32) (1000000 : Int32) (0 : Int32) m)
set_option maxRecDepth 100000 in
set_option maxHeartbeats 4000000 in
theorem kM_ask_b145 (G : xG)   (z : xM)  (k30 : Int32 → Int32 → Int32 → Int32 → xM → Option (Int32 × xM)) (hk30 : ∀ (v2 : Int32) (v3 : Int32) (v4 : Int32) (v5 : Int32) (m : xM), xR G yyM_ask (emim z) 30 [(0, .ref (xa G 85)), (2, .int v2), (3, .int v3), (4, .int v4), (5, .int v5)] [] (z, m) (k30 v2 v3 v4 v5 m)) (v2 : Int32) (v3 : Int32) (v5 : Int32) (s0 : Int32) (m : xM) : xR G yyM_ask (emim z) 145 [(0, .ref (xa G 85)), (2, .int v2), (3, .int v3), (5, .int v5)] [.int s0] (z, m) (fM_ask_b145 k30 v2 v3 v5 s0 m) := by
  unfold fM_ask_b145
  refine xR_is 145 ([(4, .int s0), (0, .ref (xa G 85)), (2, .int v2), (3, .int v3), (5, .int v5)]) dM_ask_145 (by decide) rfl ?_
  refine xR_iinc 147 4 (v5 + 1) ([(5, .int (v5 + 1)), (4, .int s0), (0, .ref (xa G 85)), (2, .int v2), (3, .int v3)]) dM_ask_147 rfl rfl (by decide) rfl ?_
  refine xR_goto 150 30 dM_ask_150 (by decide) ?_
  exact xR_sub [2, 3, 4, 1, 0] rfl (hk30 v2 v3 s0 (v5 + 1) m)
set_option maxRecDepth 100000 in
set_option maxHeartbeats 4000000 in
theorem kM_ask_b130 (G : xG)   (z : xM)  (k30 : Int32 → Int32 → Int32 → Int32 → xM → Option (Int32 × xM)) (hk30 : ∀ (v2 : Int32) (v3 : Int32) (v4 : Int32) (v5 : Int32) (m : xM), xR G yyM_ask (emim z) 30 [(0, .ref (xa G 85)), (2, .int v2), (3, .int v3), (4, .int v4), (5, .int v5)] [] (z, m) (k30 v2 v3 v4 v5 m)) (v2 : Int32) (v4 : Int32) (v5 : Int32) (v9 : Int32) (s0 : Int32) (m : xM) : xR G yyM_ask (emim z) 130 [(0, .ref (xa G 85)), (2, .int v2), (4, .int v4), (5, .int v5), (9, .int v9)] [.int s0] (z, m) (fM_ask_b130 k30 v2 v4 v5 v9 s0 m) := by
  unfold fM_ask_b130
  refine xR_isn 130 ([(3, .int s0), (0, .ref (xa G 85)), (2, .int v2), (4, .int v4), (5, .int v5), (9, .int v9)]) dM_ask_130 rfl (by decide) rfl ?_
  refine xR_il 131 5 dM_ask_131 rfl ?_
  refine xR_il 133 3 dM_ask_133 rfl ?_
  refine xR_icge 135 143 dM_ask_135 (by decide) ?_ ?_
  · refine xR_il 143 3 dM_ask_143 rfl ?_
    exact xR_sub [1, 2, 0, 4] rfl (kM_ask_b145 G z k30 hk30 v2 s0 v5 v4 m)
  · refine xR_il 138 5 dM_ask_138 rfl ?_
    refine xR_goto 140 145 dM_ask_140 (by decide) ?_
    exact xR_sub [1, 2, 0, 4] rfl (kM_ask_b145 G z k30 hk30 v2 s0 v5 v9 m)
set_option maxRecDepth 100000 in
set_option maxHeartbeats 4000000 in
theorem kM_ask_l65 (G : xG)   (z : xM)  (k30 : Int32 → Int32 → Int32 → Int32 → xM → Option (Int32 × xM)) (hk30 : ∀ (v2 : Int32) (v3 : Int32) (v4 : Int32) (v5 : Int32) (m : xM), xR G yyM_ask (emim z) 30 [(0, .ref (xa G 85)), (2, .int v2), (3, .int v3), (4, .int v4), (5, .int v5)] [] (z, m) (k30 v2 v3 v4 v5 m)) : ∀ (n : Nat) (v2 : Int32) (v3 : Int32) (v4 : Int32) (v5 : Int32) (v6 : Int32) (v7 : Int32) (v8 : Int32) (v9 : Int32) (m : xM), xR G yyM_ask (emim z) 65 [(0, .ref (xa G 85)), (2, .int v2), (3, .int v3), (4, .int v4), (5, .int v5), (6, .int v6), (7, .int v7), (8, .int v8), (9, .int v9)] [] (z, m) (fM_ask_l65 k30 n v2 v3 v4 v5 v6 v7 v8 v9 m) := by
  intro n
  induction n with
  | zero =>
    intro v2 v3 v4 v5 v6 v7 v8 v9 m
    rw [fM_ask_l65]
    exact xR_none
  | succ n ih =>
    intro v2 v3 v4 v5 v6 v7 v8 v9 m
    rw [fM_ask_l65]
    refine xR_il 65 8 dM_ask_65 rfl ?_
    refine xR_bp 67 (6 : Int32) dM_ask_67 (by decide) ?_
    refine xR_icge 69 98 dM_ask_69 (by decide) ?_ ?_
    · refine xR_aln 98 0 dM_ask_98 rfl rfl ?_
      refine xR_iln 99 1 dM_ask_99 rfl rfl ?_
      refine xR_callVi 100 cv_M_greatest ml_RX9_238 ⟨Nat.le_of_ble_eq_true rfl, Nat.le_of_ble_eq_true rfl⟩ xcf7 rfl 85 (by decide) rfl [.int v2] rfl rfl (Nat.le_of_ble_eq_true rfl) dM_ask_100 (kM_greatest G z m v2) (fun r100 => ?_)
      refine xR_is 103 ([(9, .int r100), (0, .ref (xa G 85)), (2, .int v2), (3, .int v3), (4, .int v4), (5, .int v5), (6, .int v6), (7, .int v7), (8, .int v8)]) dM_ask_103 (by decide) rfl ?_
      refine xR_il 105 0 dM_ask_105 rfl ?_
      refine xR_il 107 4 dM_ask_107 rfl ?_
      refine xR_icge 109 129 dM_ask_109 (by decide) ?_ ?_
      · refine xR_iln 129 3 dM_ask_129 rfl rfl ?_
        exact xR_sub [1, 2, 4, 5, 0] rfl (kM_ask_b130 G z k30 hk30 v2 v4 v5 r100 v3 m)
      · refine xR_bp 112 (100 : Int32) dM_ask_112 (by decide) ?_
        refine xR_il 114 6 dM_ask_114 rfl ?_
        refine xR_imul 116 dM_ask_116 ?_
        refine xR_bp 117 (10 : Int32) dM_ask_117 (by decide) ?_
        refine xR_il 119 7 dM_ask_119 rfl ?_
        refine xR_imul 121 dM_ask_121 ?_
        refine xR_iadd 122 dM_ask_122 ?_
        refine xR_il 123 8 dM_ask_123 rfl ?_
        refine xR_iadd 125 dM_ask_125 ?_
        refine xR_goto 126 130 dM_ask_126 (by decide) ?_
        exact xR_sub [1, 2, 4, 5, 0] rfl (kM_ask_b130 G z k30 hk30 v2 v4 v5 r100 ((((100 : Int32) * v6) + ((10 : Int32) * v7)) + v8) m)
    · refine xR_aln 72 0 dM_ask_72 rfl rfl ?_
      refine xR_getf 73 xcf7 11 85 (by decide) (by decide) rfl (v := .ref (xa G 91)) rfl fl_RX9_33 dM_ask_73 ?_
      refine xR_il 76 8 dM_ask_76 rfl ?_
      refine xR_il 78 8 dM_ask_78 rfl ?_
      refine xR_il 80 5 dM_ask_80 rfl ?_
      refine xR_bp 82 (20 : Int32) dM_ask_82 (by decide) ?_
      refine xR_il 84 6 dM_ask_84 rfl ?_
      refine xR_il 86 7 dM_ask_86 rfl ?_
      refine xR_callSi 88 cs_M_playOf ml_RX9_202 ⟨Nat.le_of_ble_eq_true rfl, Nat.le_of_ble_eq_true rfl⟩ [.int v9, .int v6, .int (20 : Int32), .int v7, .int v8] rfl rfl (Nat.le_of_ble_eq_true rfl) dM_ask_88 (kM_playOf G (z, m) v9 v6 (20 : Int32) v7 v8) (fun r88 => ?_)
      refine xR_iast 91 91 (by decide) rfl (z, (xset m 5 v9.toNatClampNeg r88)) xW_m5 dM_ask_91 ?_
      refine xR_iinc 92 8 (v9 + 1) ([(9, .int (v9 + 1)), (0, .ref (xa G 85)), (2, .int v2), (3, .int v3), (4, .int v4), (5, .int v5), (6, .int v6), (7, .int v7), (8, .int v8)]) dM_ask_92 rfl rfl (by decide) rfl ?_
      refine xR_goto 95 65 dM_ask_95 (by decide) ?_
      exact xR_sub [1, 2, 3, 4, 5, 6, 7, 8, 0] rfl (ih v2 v3 v4 v5 v6 v7 v8 (v9 + 1) (xset m 5 v9.toNatClampNeg r88))
set_option maxRecDepth 100000 in
set_option maxHeartbeats 4000000 in
theorem kM_ask_l30 (G : xG)   (z : xM)    : ∀ (n : Nat) (v2 : Int32) (v3 : Int32) (v4 : Int32) (v5 : Int32) (m : xM), xR G yyM_ask (emim z) 30 [(0, .ref (xa G 85)), (2, .int v2), (3, .int v3), (4, .int v4), (5, .int v5)] [] (z, m) (fM_ask_l30  n v2 v3 v4 v5 m) := by
  intro n
  induction n with
  | zero =>
    intro v2 v3 v4 v5 m
    rw [fM_ask_l30]
    exact xR_none
  | succ n ih =>
    intro v2 v3 v4 v5 m
    rw [fM_ask_l30]
    refine xR_il 30 4 dM_ask_30 rfl ?_
    refine xR_bp 32 (100 : Int32) dM_ask_32 (by decide) ?_
    refine xR_icge 34 153 dM_ask_34 (by decide) ?_ ?_
    · refine xR_iln 153 2 dM_ask_153 rfl rfl ?_
      exact xR_iret 154 rfl rfl dM_ask_154
    · refine xR_iln 37 1 dM_ask_37 rfl rfl ?_
      refine xR_ifle 38 153 dM_ask_38 (by decide) ?_ ?_
      · refine xR_iln 153 2 dM_ask_153 rfl rfl ?_
        exact xR_iret 154 rfl rfl dM_ask_154
      · refine xR_il 41 4 dM_ask_41 rfl ?_
        refine xR_bp 43 (25 : Int32) dM_ask_43 (by decide) ?_
        refine xR_idiv 45 dM_ask_45 (by decide) ?_
        refine xR_is 46 ([(6, .int (v5 / (25 : Int32))), (0, .ref (xa G 85)), (2, .int v2), (3, .int v3), (4, .int v4), (5, .int v5)]) dM_ask_46 (by decide) rfl ?_
        refine xR_il 48 5 dM_ask_48 rfl ?_
        refine xR_ic 50 (5 : Int32) dM_ask_50 (by decide) ?_
        refine xR_idiv 51 dM_ask_51 (by decide) ?_
        refine xR_ic 52 (5 : Int32) dM_ask_52 (by decide) ?_
        refine xR_irem 53 dM_ask_53 (by decide) ?_
        refine xR_is 54 ([(7, .int ((v5 / (5 : Int32)) - (v5 / (5 : Int32)) / (5 : Int32) * (5 : Int32))), (6, .int (v5 / (25 : Int32))), (0, .ref (xa G 85)), (2, .int v2), (3, .int v3), (4, .int v4), (5, .int v5)]) dM_ask_54 (by decide) rfl ?_
        refine xR_il 56 6 dM_ask_56 rfl ?_
        refine xR_ic 58 (5 : Int32) dM_ask_58 (by decide) ?_
        refine xR_irem 59 dM_ask_59 (by decide) ?_
        refine xR_is 60 ([(8, .int (v5 - v5 / (5 : Int32) * (5 : Int32))), (7, .int ((v5 / (5 : Int32)) - (v5 / (5 : Int32)) / (5 : Int32) * (5 : Int32))), (6, .int (v5 / (25 : Int32))), (0, .ref (xa G 85)), (2, .int v2), (3, .int v3), (4, .int v4), (5, .int v5)]) dM_ask_60 (by decide) rfl ?_
        refine xR_ic 62 (0 : Int32) dM_ask_62 (by decide) ?_
        refine xR_is 63 ([(9, .int (0 : Int32)), (8, .int (v5 - v5 / (5 : Int32) * (5 : Int32))), (7, .int ((v5 / (5 : Int32)) - (v5 / (5 : Int32)) / (5 : Int32) * (5 : Int32))), (6, .int (v5 / (25 : Int32))), (0, .ref (xa G 85)), (2, .int v2), (3, .int v3), (4, .int v4), (5, .int v5)]) dM_ask_63 (by decide) rfl ?_
        exact xR_sub [4, 5, 6, 7, 8, 3, 2, 1, 0] rfl (kM_ask_l65 G z (fM_ask_l30 n) ih xfu v2 v3 v4 v5 (v5 / (25 : Int32)) ((v5 / (5 : Int32)) - (v5 / (5 : Int32)) / (5 : Int32) * (5 : Int32)) (v5 - v5 / (5 : Int32) * (5 : Int32)) (0 : Int32) m)
set_option maxRecDepth 100000 in
set_option maxHeartbeats 4000000 in
theorem kM_ask (G : xG)   (z : xM) (m : xM) (v1 : Int32) : ∀ a, fM_ask  v1 m = some a → xCt G yyM_ask [.ref (xa G 85), .int v1] (z, m) (some (.int a.1)) (z, a.2) := by
  refine xR_ct (em := (emim z)) rfl (Nat.le_of_ble_eq_true rfl) ?_
  show xR G yyM_ask _ 0 [(0, .ref (xa G 85)), (1, .int v1)] [] _ _
  unfold fM_ask
  refine xR_aln 0 0 dM_ask_0 rfl rfl ?_
  refine xR_iln 1 1 dM_ask_1 rfl rfl ?_
  refine xR_callVi 2 cv_M_isInstrument ml_RX9_177 ⟨Nat.le_of_ble_eq_true rfl, Nat.le_of_ble_eq_true rfl⟩ xcf7 rfl 85 (by decide) rfl [.int v1] rfl rfl (Nat.le_of_ble_eq_true rfl) dM_ask_2 (kM_isInstrument G z m v1) (fun r2 => ?_)
  refine xR_ifne 5 15 dM_ask_5 (by decide) ?_ ?_
  · refine xR_aln 15 0 dM_ask_15 rfl rfl ?_
    refine xR_iln 16 1 dM_ask_16 rfl rfl ?_
    refine xR_callVi 17 cv_M_instrumentsOf ml_RX9_246 ⟨Nat.le_of_ble_eq_true rfl, Nat.le_of_ble_eq_true rfl⟩ xcf7 rfl 85 (by decide) rfl [.int v1] rfl rfl (Nat.le_of_ble_eq_true rfl) dM_ask_17 (kM_instrumentsOf G z m v1) (fun r17 => ?_)
    refine xR_isn 20 ([(2, .int r17), (0, .ref (xa G 85)), (1, .int v1)]) dM_ask_20 rfl (by decide) rfl ?_
    refine xR_ic 21 (-1 : Int32) dM_ask_21 (by decide) ?_
    refine xR_isn 22 ([(3, .int (-1 : Int32)), (2, .int r17), (0, .ref (xa G 85)), (1, .int v1)]) dM_ask_22 rfl (by decide) rfl ?_
    refine xR_ldc 23 ci_RX9_223 dM_ask_23 ?_
    refine xR_is 25 ([(4, .int (1000000 : Int32)), (3, .int (-1 : Int32)), (2, .int r17), (0, .ref (xa G 85)), (1, .int v1)]) dM_ask_25 (by decide) rfl ?_
    refine xR_ic 27 (0 : Int32) dM_ask_27 (by decide) ?_
    refine xR_is 28 ([(5, .int (0 : Int32)), (4, .int (1000000 : Int32)), (3, .int (-1 : Int32)), (2, .int r17), (0, .ref (xa G 85)), (1, .int v1)]) dM_ask_28 (by decide) rfl ?_
    exact xR_sub [4, 3, 2, 1, 0] rfl (kM_ask_l30 G z xfu r17 (-1 : Int32) (1000000 : Int32) (0 : Int32) m)
  · refine xR_aln 8 0 dM_ask_8 rfl rfl ?_
    refine xR_bp 9 (-2 : Int32) dM_ask_9 (by decide) ?_
    refine xR_callVim 11 cv_M_bad ml_RX9_66 ⟨Nat.le_of_ble_eq_true rfl, Nat.le_of_ble_eq_true rfl⟩ xcf7 rfl 85 (by decide) rfl [.int (-2 : Int32)] rfl rfl (Nat.le_of_ble_eq_true rfl) dM_ask_11 (kM_bad G z m (-2 : Int32)) (fun r11 => ?_)
    exact xR_iret 14 rfl rfl dM_ask_14
theorem dM_bids_0 : decode (xb yyM_bids) 0 = .ok (.aload_n 0, 1) := by decide +kernel
theorem dM_bids_1 : decode (xb yyM_bids) 1 = .ok (.iload_n 1, 1) := by decide +kernel
theorem dM_bids_2 : decode (xb yyM_bids) 2 = .ok (.invokevirtual 177, 3) := by decide +kernel
theorem dM_bids_5 : decode (xb yyM_bids) 5 = .ok (.ifCond .eq 8, 3) := by decide +kernel
theorem dM_bids_8 : decode (xb yyM_bids) 8 = .ok (.iload_n 2, 1) := by decide +kernel
theorem dM_bids_9 : decode (xb yyM_bids) 9 = .ok (.iconst (-1), 1) := by decide +kernel
theorem dM_bids_10 : decode (xb yyM_bids) 10 = .ok (.if_icmp .ge 10, 3) := by decide +kernel
theorem dM_bids_13 : decode (xb yyM_bids) 13 = .ok (.aload_n 0, 1) := by decide +kernel
theorem dM_bids_14 : decode (xb yyM_bids) 14 = .ok (.bipush (-10), 2) := by decide +kernel
theorem dM_bids_16 : decode (xb yyM_bids) 16 = .ok (.invokevirtual 66, 3) := by decide +kernel
theorem dM_bids_19 : decode (xb yyM_bids) 19 = .ok (.ireturn, 1) := by decide +kernel
theorem dM_bids_20 : decode (xb yyM_bids) 20 = .ok (.aload_n 0, 1) := by decide +kernel
theorem dM_bids_21 : decode (xb yyM_bids) 21 = .ok (.iconst 0, 1) := by decide +kernel
theorem dM_bids_22 : decode (xb yyM_bids) 22 = .ok (.iload_n 1, 1) := by decide +kernel
theorem dM_bids_23 : decode (xb yyM_bids) 23 = .ok (.iconst 0, 1) := by decide +kernel
theorem dM_bids_24 : decode (xb yyM_bids) 24 = .ok (.invokevirtual 209, 3) := by decide +kernel
theorem dM_bids_27 : decode (xb yyM_bids) 27 = .ok (.istore_n 3, 1) := by decide +kernel
theorem dM_bids_28 : decode (xb yyM_bids) 28 = .ok (.iload_n 3, 1) := by decide +kernel
theorem dM_bids_29 : decode (xb yyM_bids) 29 = .ok (.bipush 9, 2) := by decide +kernel
theorem dM_bids_31 : decode (xb yyM_bids) 31 = .ok (.if_icmp .le 8, 3) := by decide +kernel
theorem dM_bids_34 : decode (xb yyM_bids) 34 = .ok (.bipush 9, 2) := by decide +kernel
theorem dM_bids_36 : decode (xb yyM_bids) 36 = .ok (.goto 4, 3) := by decide +kernel
theorem dM_bids_39 : decode (xb yyM_bids) 39 = .ok (.iload_n 3, 1) := by decide +kernel
theorem dM_bids_40 : decode (xb yyM_bids) 40 = .ok (.istore 4, 2) := by decide +kernel
theorem dM_bids_42 : decode (xb yyM_bids) 42 = .ok (.iconst 0, 1) := by decide +kernel
theorem dM_bids_43 : decode (xb yyM_bids) 43 = .ok (.istore 5, 2) := by decide +kernel
theorem dM_bids_45 : decode (xb yyM_bids) 45 = .ok (.iconst 0, 1) := by decide +kernel
theorem dM_bids_46 : decode (xb yyM_bids) 46 = .ok (.istore 6, 2) := by decide +kernel
theorem dM_bids_48 : decode (xb yyM_bids) 48 = .ok (.iload 6, 2) := by decide +kernel
theorem dM_bids_50 : decode (xb yyM_bids) 50 = .ok (.bipush 100, 2) := by decide +kernel
theorem dM_bids_52 : decode (xb yyM_bids) 52 = .ok (.if_icmp .ge 39, 3) := by decide +kernel
theorem dM_bids_55 : decode (xb yyM_bids) 55 = .ok (.iload 4, 2) := by decide +kernel
theorem dM_bids_57 : decode (xb yyM_bids) 57 = .ok (.iload 6, 2) := by decide +kernel
theorem dM_bids_59 : decode (xb yyM_bids) 59 = .ok (.bipush 10, 2) := by decide +kernel
theorem dM_bids_61 : decode (xb yyM_bids) 61 = .ok (.idiv, 1) := by decide +kernel
theorem dM_bids_62 : decode (xb yyM_bids) 62 = .ok (.iload 6, 2) := by decide +kernel
theorem dM_bids_64 : decode (xb yyM_bids) 64 = .ok (.bipush 10, 2) := by decide +kernel
theorem dM_bids_66 : decode (xb yyM_bids) 66 = .ok (.irem, 1) := by decide +kernel
theorem dM_bids_67 : decode (xb yyM_bids) 67 = .ok (.invokestatic 253, 3) := by decide +kernel
theorem dM_bids_70 : decode (xb yyM_bids) 70 = .ok (.ifCond .eq 15, 3) := by decide +kernel
theorem dM_bids_73 : decode (xb yyM_bids) 73 = .ok (.iload 5, 2) := by decide +kernel
theorem dM_bids_75 : decode (xb yyM_bids) 75 = .ok (.iload_n 2, 1) := by decide +kernel
theorem dM_bids_76 : decode (xb yyM_bids) 76 = .ok (.if_icmp .ne 6, 3) := by decide +kernel
theorem dM_bids_79 : decode (xb yyM_bids) 79 = .ok (.iload 6, 2) := by decide +kernel
theorem dM_bids_81 : decode (xb yyM_bids) 81 = .ok (.ireturn, 1) := by decide +kernel
theorem dM_bids_82 : decode (xb yyM_bids) 82 = .ok (.iinc 5 1, 3) := by decide +kernel
theorem dM_bids_85 : decode (xb yyM_bids) 85 = .ok (.iinc 6 1, 3) := by decide +kernel
theorem dM_bids_88 : decode (xb yyM_bids) 88 = .ok (.goto (-40), 3) := by decide +kernel
theorem dM_bids_91 : decode (xb yyM_bids) 91 = .ok (.iload_n 2, 1) := by decide +kernel
theorem dM_bids_92 : decode (xb yyM_bids) 92 = .ok (.iconst (-1), 1) := by decide +kernel
theorem dM_bids_93 : decode (xb yyM_bids) 93 = .ok (.if_icmp .ne 8, 3) := by decide +kernel
theorem dM_bids_96 : decode (xb yyM_bids) 96 = .ok (.iload 5, 2) := by decide +kernel
theorem dM_bids_98 : decode (xb yyM_bids) 98 = .ok (.goto 5, 3) := by decide +kernel
theorem dM_bids_101 : decode (xb yyM_bids) 101 = .ok (.bipush (-5), 2) := by decide +kernel
theorem dM_bids_103 : decode (xb yyM_bids) 103 = .ok (.ireturn, 1) := by decide +kernel
def fM_bids_b85 (k48 : Int32 → Int32 → Int32 → Int32 → xM → Option (Int32 × xM)) (v2 : Int32) (v4 : Int32) (v5 : Int32) (v6 : Int32) (m : xM) : Option (Int32 × xM) := k48 v2 v4 v5 (v6 + 1) m
def fM_bids_l48  : Nat → Int32 → Int32 → Int32 → Int32 → xM → Option (Int32 × xM)
  | 0, _, _, _, _, _ => none
  | n + 1, v2, v4, v5, v6, m => (if (100 : Int32) ≤ v6 then (if v2 = (-1 : Int32) then some (v5, m) else some ((-5 : Int32), m)) else (fM_rests v4 (v6 / (10 : Int32)) (v6 - v6 / (10 : Int32) * (10 : Int32))).bind fun r67 => (if r67 = 0 then fM_bids_b85 (fM_bids_l48 n) v2 v4 v5 v6 m else (if v5 = v2 then some (v6, m) else fM_bids_b85 (fM_bids_l48 n) v2 v4 (v5 + 1) v6 m)))
def fM_bids_b40  (v2 : Int32) (s0 : Int32) (m : xM) : Option (Int32 × xM) := fM_bids_l48 xfu v2 s0 (0 : Int32) (0 : Int32) m
def fM_bids  (v1 : Int32) (v2 : Int32) (m : xM) : Option (Int32 × xM) := (fM_isInstrument m v1).bind fun r2 => (if r2 = 0 then (fM_bad (-10 : Int32) m).bind fun r16 => some (r16.1, r16.2) else (if (-1 : Int32) ≤ v2 then (fM_playsIn m (0 : Int32) v1 (0 : Int32)).bind fun r24 => (if r24 ≤ (9 : Int32) then fM_bids_b40 v2 r24 m else fM_bids_b40 v2 (9 : Int32) m) else (fM_bad (-10 : Int32) m).bind fun r16 => some (r16.1, r16.2)))
set_option maxRecDepth 100000 in
set_option maxHeartbeats 4000000 in
theorem kM_bids_b85 (G : xG)   (z : xM)  (k48 : Int32 → Int32 → Int32 → Int32 → xM → Option (Int32 × xM)) (hk48 : ∀ (v2 : Int32) (v4 : Int32) (v5 : Int32) (v6 : Int32) (m : xM), xR G yyM_bids (emim z) 48 [(2, .int v2), (4, .int v4), (5, .int v5), (6, .int v6)] [] (z, m) (k48 v2 v4 v5 v6 m)) (v2 : Int32) (v4 : Int32) (v5 : Int32) (v6 : Int32) (m : xM) : xR G yyM_bids (emim z) 85 [(2, .int v2), (4, .int v4), (5, .int v5), (6, .int v6)] [] (z, m) (fM_bids_b85 k48 v2 v4 v5 v6 m) := by
  unfold fM_bids_b85
  refine xR_iinc 85 3 (v6 + 1) ([(6, .int (v6 + 1)), (2, .int v2), (4, .int v4), (5, .int v5)]) dM_bids_85 rfl rfl (by decide) rfl ?_
  refine xR_goto 88 48 dM_bids_88 (by decide) ?_
  exact xR_sub [1, 2, 3, 0] rfl (hk48 v2 v4 v5 (v6 + 1) m)
set_option maxRecDepth 100000 in
set_option maxHeartbeats 4000000 in
theorem kM_bids_l48 (G : xG)   (z : xM)    : ∀ (n : Nat) (v2 : Int32) (v4 : Int32) (v5 : Int32) (v6 : Int32) (m : xM), xR G yyM_bids (emim z) 48 [(2, .int v2), (4, .int v4), (5, .int v5), (6, .int v6)] [] (z, m) (fM_bids_l48  n v2 v4 v5 v6 m) := by
  intro n
  induction n with
  | zero =>
    intro v2 v4 v5 v6 m
    rw [fM_bids_l48]
    exact xR_none
  | succ n ih =>
    intro v2 v4 v5 v6 m
    rw [fM_bids_l48]
    refine xR_il 48 3 dM_bids_48 rfl ?_
    refine xR_bp 50 (100 : Int32) dM_bids_50 (by decide) ?_
    refine xR_icge 52 91 dM_bids_52 (by decide) ?_ ?_
    · refine xR_iln 91 0 dM_bids_91 rfl rfl ?_
      refine xR_ic 92 (-1 : Int32) dM_bids_92 (by decide) ?_
      refine xR_icne 93 101 dM_bids_93 (by decide) ?_ ?_
      · refine xR_bp 101 (-5 : Int32) dM_bids_101 (by decide) ?_
        exact xR_iret 103 rfl rfl dM_bids_103
      · refine xR_il 96 2 dM_bids_96 rfl ?_
        refine xR_goto 98 103 dM_bids_98 (by decide) ?_
        exact xR_iret 103 rfl rfl dM_bids_103
    · refine xR_il 55 1 dM_bids_55 rfl ?_
      refine xR_il 57 3 dM_bids_57 rfl ?_
      refine xR_bp 59 (10 : Int32) dM_bids_59 (by decide) ?_
      refine xR_idiv 61 dM_bids_61 (by decide) ?_
      refine xR_il 62 3 dM_bids_62 rfl ?_
      refine xR_bp 64 (10 : Int32) dM_bids_64 (by decide) ?_
      refine xR_irem 66 dM_bids_66 (by decide) ?_
      refine xR_callSi 67 cs_M_rests ml_RX9_253 ⟨Nat.le_of_ble_eq_true rfl, Nat.le_of_ble_eq_true rfl⟩ [.int v4, .int (v6 / (10 : Int32)), .int (v6 - v6 / (10 : Int32) * (10 : Int32))] rfl rfl (Nat.le_of_ble_eq_true rfl) dM_bids_67 (kM_rests G (z, m) v4 (v6 / (10 : Int32)) (v6 - v6 / (10 : Int32) * (10 : Int32))) (fun r67 => ?_)
      refine xR_ifeq 70 85 dM_bids_70 (by decide) ?_ ?_
      · exact kM_bids_b85 G z (fM_bids_l48 n) ih v2 v4 v5 v6 m
      · refine xR_il 73 2 dM_bids_73 rfl ?_
        refine xR_iln 75 0 dM_bids_75 rfl rfl ?_
        refine xR_icne 76 82 dM_bids_76 (by decide) ?_ ?_
        · refine xR_iinc 82 2 (v5 + 1) ([(5, .int (v5 + 1)), (2, .int v2), (4, .int v4), (6, .int v6)]) dM_bids_82 rfl rfl (by decide) rfl ?_
          exact xR_sub [1, 2, 0, 3] rfl (kM_bids_b85 G z (fM_bids_l48 n) ih v2 v4 (v5 + 1) v6 m)
        · refine xR_il 79 3 dM_bids_79 rfl ?_
          exact xR_iret 81 rfl rfl dM_bids_81
set_option maxRecDepth 100000 in
set_option maxHeartbeats 4000000 in
theorem kM_bids_b40 (G : xG)   (z : xM)    (v2 : Int32) (s0 : Int32) (m : xM) : xR G yyM_bids (emim z) 40 [(2, .int v2)] [.int s0] (z, m) (fM_bids_b40  v2 s0 m) := by
  unfold fM_bids_b40
  refine xR_is 40 ([(4, .int s0), (2, .int v2)]) dM_bids_40 (by decide) rfl ?_
  refine xR_ic 42 (0 : Int32) dM_bids_42 (by decide) ?_
  refine xR_is 43 ([(5, .int (0 : Int32)), (4, .int s0), (2, .int v2)]) dM_bids_43 (by decide) rfl ?_
  refine xR_ic 45 (0 : Int32) dM_bids_45 (by decide) ?_
  refine xR_is 46 ([(6, .int (0 : Int32)), (5, .int (0 : Int32)), (4, .int s0), (2, .int v2)]) dM_bids_46 (by decide) rfl ?_
  exact xR_sub [3, 2, 1, 0] rfl (kM_bids_l48 G z xfu v2 s0 (0 : Int32) (0 : Int32) m)
set_option maxRecDepth 100000 in
set_option maxHeartbeats 4000000 in
theorem kM_bids (G : xG)   (z : xM) (m : xM) (v1 : Int32) (v2 : Int32) : ∀ a, fM_bids  v1 v2 m = some a → xCt G yyM_bids [.ref (xa G 85), .int v1, .int v2] (z, m) (some (.int a.1)) (z, a.2) := by
  refine xR_ct (em := (emim z)) rfl (Nat.le_of_ble_eq_true rfl) ?_
  show xR G yyM_bids _ 0 [(0, .ref (xa G 85)), (1, .int v1), (2, .int v2)] [] _ _
  unfold fM_bids
  refine xR_aln 0 0 dM_bids_0 rfl rfl ?_
  refine xR_iln 1 1 dM_bids_1 rfl rfl ?_
  refine xR_callVi 2 cv_M_isInstrument ml_RX9_177 ⟨Nat.le_of_ble_eq_true rfl, Nat.le_of_ble_eq_true rfl⟩ xcf7 rfl 85 (by decide) rfl [.int v1] rfl rfl (Nat.le_of_ble_eq_true rfl) dM_bids_2 (kM_isInstrument G z m v1) (fun r2 => ?_)
  refine xR_ifeq 5 13 dM_bids_5 (by decide) ?_ ?_
  · refine xR_aln 13 0 dM_bids_13 rfl rfl ?_
    refine xR_bp 14 (-10 : Int32) dM_bids_14 (by decide) ?_
    refine xR_callVim 16 cv_M_bad ml_RX9_66 ⟨Nat.le_of_ble_eq_true rfl, Nat.le_of_ble_eq_true rfl⟩ xcf7 rfl 85 (by decide) rfl [.int (-10 : Int32)] rfl rfl (Nat.le_of_ble_eq_true rfl) dM_bids_16 (kM_bad G z m (-10 : Int32)) (fun r16 => ?_)
    exact xR_iret 19 rfl rfl dM_bids_19
  · refine xR_iln 8 2 dM_bids_8 rfl rfl ?_
    refine xR_ic 9 (-1 : Int32) dM_bids_9 (by decide) ?_
    refine xR_icge 10 20 dM_bids_10 (by decide) ?_ ?_
    · refine xR_aln 20 0 dM_bids_20 rfl rfl ?_
      refine xR_ic 21 (0 : Int32) dM_bids_21 (by decide) ?_
      refine xR_iln 22 1 dM_bids_22 rfl rfl ?_
      refine xR_ic 23 (0 : Int32) dM_bids_23 (by decide) ?_
      refine xR_callVi 24 cv_M_playsIn ml_RX9_209 ⟨Nat.le_of_ble_eq_true rfl, Nat.le_of_ble_eq_true rfl⟩ xcf7 rfl 85 (by decide) rfl [.int (0 : Int32), .int v1, .int (0 : Int32)] rfl rfl (Nat.le_of_ble_eq_true rfl) dM_bids_24 (kM_playsIn G z m (0 : Int32) v1 (0 : Int32)) (fun r24 => ?_)
      refine xR_isn 27 ([(3, .int r24), (0, .ref (xa G 85)), (1, .int v1), (2, .int v2)]) dM_bids_27 rfl (by decide) rfl ?_
      refine xR_iln 28 0 dM_bids_28 rfl rfl ?_
      refine xR_bp 29 (9 : Int32) dM_bids_29 (by decide) ?_
      refine xR_icle 31 39 dM_bids_31 (by decide) ?_ ?_
      · refine xR_iln 39 0 dM_bids_39 rfl rfl ?_
        exact xR_sub [3] rfl (kM_bids_b40 G z v2 r24 m)
      · refine xR_bp 34 (9 : Int32) dM_bids_34 (by decide) ?_
        refine xR_goto 36 40 dM_bids_36 (by decide) ?_
        exact xR_sub [3] rfl (kM_bids_b40 G z v2 (9 : Int32) m)
    · refine xR_aln 13 0 dM_bids_13 rfl rfl ?_
      refine xR_bp 14 (-10 : Int32) dM_bids_14 (by decide) ?_
      refine xR_callVim 16 cv_M_bad ml_RX9_66 ⟨Nat.le_of_ble_eq_true rfl, Nat.le_of_ble_eq_true rfl⟩ xcf7 rfl 85 (by decide) rfl [.int (-10 : Int32)] rfl rfl (Nat.le_of_ble_eq_true rfl) dM_bids_16 (kM_bad G z m (-10 : Int32)) (fun r16 => ?_)
      exact xR_iret 19 rfl rfl dM_bids_19
theorem dM_weeps_0 : decode (xb yyM_weeps) 0 = .ok (.aload_n 0, 1) := by decide +kernel
theorem dM_weeps_1 : decode (xb yyM_weeps) 1 = .ok (.iload_n 1, 1) := by decide +kernel
theorem dM_weeps_2 : decode (xb yyM_weeps) 2 = .ok (.invokevirtual 177, 3) := by decide +kernel
theorem dM_weeps_5 : decode (xb yyM_weeps) 5 = .ok (.ifCond .eq 22, 3) := by decide +kernel
theorem dM_weeps_8 : decode (xb yyM_weeps) 8 = .ok (.iload_n 2, 1) := by decide +kernel
theorem dM_weeps_9 : decode (xb yyM_weeps) 9 = .ok (.invokestatic 206, 3) := by decide +kernel
theorem dM_weeps_12 : decode (xb yyM_weeps) 12 = .ok (.ifCond .eq 15, 3) := by decide +kernel
theorem dM_weeps_15 : decode (xb yyM_weeps) 15 = .ok (.iload_n 3, 1) := by decide +kernel
theorem dM_weeps_16 : decode (xb yyM_weeps) 16 = .ok (.i2l, 1) := by decide +kernel
theorem dM_weeps_17 : decode (xb yyM_weeps) 17 = .ok (.lconst 0, 1) := by decide +kernel
theorem dM_weeps_18 : decode (xb yyM_weeps) 18 = .ok (.ldc2_w 256, 3) := by decide +kernel
theorem dM_weeps_21 : decode (xb yyM_weeps) 21 = .ok (.invokestatic 40, 3) := by decide +kernel
theorem dM_weeps_24 : decode (xb yyM_weeps) 24 = .ok (.ifCond .ne 10, 3) := by decide +kernel
theorem dM_weeps_27 : decode (xb yyM_weeps) 27 = .ok (.aload_n 0, 1) := by decide +kernel
theorem dM_weeps_28 : decode (xb yyM_weeps) 28 = .ok (.bipush (-2), 2) := by decide +kernel
theorem dM_weeps_30 : decode (xb yyM_weeps) 30 = .ok (.invokevirtual 66, 3) := by decide +kernel
theorem dM_weeps_33 : decode (xb yyM_weeps) 33 = .ok (.ireturn, 1) := by decide +kernel
theorem dM_weeps_34 : decode (xb yyM_weeps) 34 = .ok (.lconst 0, 1) := by decide +kernel
theorem dM_weeps_35 : decode (xb yyM_weeps) 35 = .ok (.lstore 4, 2) := by decide +kernel
theorem dM_weeps_37 : decode (xb yyM_weeps) 37 = .ok (.lconst 1, 1) := by decide +kernel
theorem dM_weeps_38 : decode (xb yyM_weeps) 38 = .ok (.lstore 6, 2) := by decide +kernel
theorem dM_weeps_40 : decode (xb yyM_weeps) 40 = .ok (.iconst 0, 1) := by decide +kernel
theorem dM_weeps_41 : decode (xb yyM_weeps) 41 = .ok (.istore 8, 2) := by decide +kernel
theorem dM_weeps_43 : decode (xb yyM_weeps) 43 = .ok (.iload 8, 2) := by decide +kernel
theorem dM_weeps_45 : decode (xb yyM_weeps) 45 = .ok (.aload_n 0, 1) := by decide +kernel
theorem dM_weeps_46 : decode (xb yyM_weeps) 46 = .ok (.iconst 0, 1) := by decide +kernel
theorem dM_weeps_47 : decode (xb yyM_weeps) 47 = .ok (.iload_n 1, 1) := by decide +kernel
theorem dM_weeps_48 : decode (xb yyM_weeps) 48 = .ok (.invokevirtual 127, 3) := by decide +kernel
theorem dM_weeps_51 : decode (xb yyM_weeps) 51 = .ok (.if_icmp .ge 17, 3) := by decide +kernel
theorem dM_weeps_54 : decode (xb yyM_weeps) 54 = .ok (.lload 6, 2) := by decide +kernel
theorem dM_weeps_56 : decode (xb yyM_weeps) 56 = .ok (.ldc2_w 256, 3) := by decide +kernel
theorem dM_weeps_59 : decode (xb yyM_weeps) 59 = .ok (.lmul, 1) := by decide +kernel
theorem dM_weeps_60 : decode (xb yyM_weeps) 60 = .ok (.lstore 6, 2) := by decide +kernel
theorem dM_weeps_62 : decode (xb yyM_weeps) 62 = .ok (.iinc 8 1, 3) := by decide +kernel
theorem dM_weeps_65 : decode (xb yyM_weeps) 65 = .ok (.goto (-22), 3) := by decide +kernel
theorem dM_weeps_68 : decode (xb yyM_weeps) 68 = .ok (.iconst 0, 1) := by decide +kernel
theorem dM_weeps_69 : decode (xb yyM_weeps) 69 = .ok (.istore 8, 2) := by decide +kernel
theorem dM_weeps_71 : decode (xb yyM_weeps) 71 = .ok (.iload 8, 2) := by decide +kernel
theorem dM_weeps_73 : decode (xb yyM_weeps) 73 = .ok (.iconst 1, 1) := by decide +kernel
theorem dM_weeps_74 : decode (xb yyM_weeps) 74 = .ok (.aload_n 0, 1) := by decide +kernel
theorem dM_weeps_75 : decode (xb yyM_weeps) 75 = .ok (.getfield 7, 3) := by decide +kernel
theorem dM_weeps_78 : decode (xb yyM_weeps) 78 = .ok (.iconst 0, 1) := by decide +kernel
theorem dM_weeps_79 : decode (xb yyM_weeps) 79 = .ok (.iaload, 1) := by decide +kernel
theorem dM_weeps_80 : decode (xb yyM_weeps) 80 = .ok (.ishl, 1) := by decide +kernel
theorem dM_weeps_81 : decode (xb yyM_weeps) 81 = .ok (.if_icmp .ge 175, 3) := by decide +kernel
theorem dM_weeps_84 : decode (xb yyM_weeps) 84 = .ok (.lconst 1, 1) := by decide +kernel
theorem dM_weeps_85 : decode (xb yyM_weeps) 85 = .ok (.lstore 9, 2) := by decide +kernel
theorem dM_weeps_87 : decode (xb yyM_weeps) 87 = .ok (.aload_n 0, 1) := by decide +kernel
theorem dM_weeps_88 : decode (xb yyM_weeps) 88 = .ok (.invokevirtual 212, 3) := by decide +kernel
theorem dM_weeps_91 : decode (xb yyM_weeps) 91 = .ok (.iconst 0, 1) := by decide +kernel
theorem dM_weeps_92 : decode (xb yyM_weeps) 92 = .ok (.istore 11, 2) := by decide +kernel
theorem dM_weeps_94 : decode (xb yyM_weeps) 94 = .ok (.iload 11, 2) := by decide +kernel
theorem dM_weeps_96 : decode (xb yyM_weeps) 96 = .ok (.aload_n 0, 1) := by decide +kernel
theorem dM_weeps_97 : decode (xb yyM_weeps) 97 = .ok (.getfield 7, 3) := by decide +kernel
theorem dM_weeps_100 : decode (xb yyM_weeps) 100 = .ok (.iconst 0, 1) := by decide +kernel
theorem dM_weeps_101 : decode (xb yyM_weeps) 101 = .ok (.iaload, 1) := by decide +kernel
theorem dM_weeps_102 : decode (xb yyM_weeps) 102 = .ok (.if_icmp .ge 130, 3) := by decide +kernel
theorem dM_weeps_105 : decode (xb yyM_weeps) 105 = .ok (.aload_n 0, 1) := by decide +kernel
theorem dM_weeps_106 : decode (xb yyM_weeps) 106 = .ok (.getfield 7, 3) := by decide +kernel
theorem dM_weeps_109 : decode (xb yyM_weeps) 109 = .ok (.bipush 38, 2) := by decide +kernel
theorem dM_weeps_111 : decode (xb yyM_weeps) 111 = .ok (.iload 11, 2) := by decide +kernel
theorem dM_weeps_113 : decode (xb yyM_weeps) 113 = .ok (.iadd, 1) := by decide +kernel
theorem dM_weeps_114 : decode (xb yyM_weeps) 114 = .ok (.iaload, 1) := by decide +kernel
theorem dM_weeps_115 : decode (xb yyM_weeps) 115 = .ok (.iload_n 1, 1) := by decide +kernel
theorem dM_weeps_116 : decode (xb yyM_weeps) 116 = .ok (.if_icmp .ne 97, 3) := by decide +kernel
theorem dM_weeps_119 : decode (xb yyM_weeps) 119 = .ok (.lload 9, 2) := by decide +kernel
theorem dM_weeps_121 : decode (xb yyM_weeps) 121 = .ok (.iload 8, 2) := by decide +kernel
theorem dM_weeps_123 : decode (xb yyM_weeps) 123 = .ok (.iload 11, 2) := by decide +kernel
theorem dM_weeps_125 : decode (xb yyM_weeps) 125 = .ok (.invokestatic 220, 3) := by decide +kernel
theorem dM_weeps_128 : decode (xb yyM_weeps) 128 = .ok (.ifCond .eq 8, 3) := by decide +kernel
theorem dM_weeps_131 : decode (xb yyM_weeps) 131 = .ok (.iload_n 3, 1) := by decide +kernel
theorem dM_weeps_132 : decode (xb yyM_weeps) 132 = .ok (.i2l, 1) := by decide +kernel
theorem dM_weeps_133 : decode (xb yyM_weeps) 133 = .ok (.goto 8, 3) := by decide +kernel
theorem dM_weeps_136 : decode (xb yyM_weeps) 136 = .ok (.bipush 10, 2) := by decide +kernel
theorem dM_weeps_138 : decode (xb yyM_weeps) 138 = .ok (.iload_n 3, 1) := by decide +kernel
theorem dM_weeps_139 : decode (xb yyM_weeps) 139 = .ok (.isub, 1) := by decide +kernel
theorem dM_weeps_140 : decode (xb yyM_weeps) 140 = .ok (.i2l, 1) := by decide +kernel
theorem dM_weeps_141 : decode (xb yyM_weeps) 141 = .ok (.lmul, 1) := by decide +kernel
theorem dM_weeps_142 : decode (xb yyM_weeps) 142 = .ok (.lstore 9, 2) := by decide +kernel
theorem dM_weeps_144 : decode (xb yyM_weeps) 144 = .ok (.aload_n 0, 1) := by decide +kernel
theorem dM_weeps_145 : decode (xb yyM_weeps) 145 = .ok (.getfield 7, 3) := by decide +kernel
theorem dM_weeps_148 : decode (xb yyM_weeps) 148 = .ok (.sipush 1724, 3) := by decide +kernel
theorem dM_weeps_151 : decode (xb yyM_weeps) 151 = .ok (.iload 11, 2) := by decide +kernel
theorem dM_weeps_153 : decode (xb yyM_weeps) 153 = .ok (.iadd, 1) := by decide +kernel
theorem dM_weeps_154 : decode (xb yyM_weeps) 154 = .ok (.iload 8, 2) := by decide +kernel
theorem dM_weeps_156 : decode (xb yyM_weeps) 156 = .ok (.iload 11, 2) := by decide +kernel
theorem dM_weeps_158 : decode (xb yyM_weeps) 158 = .ok (.invokestatic 220, 3) := by decide +kernel
theorem dM_weeps_161 : decode (xb yyM_weeps) 161 = .ok (.ifCond .ne 16, 3) := by decide +kernel
theorem dM_weeps_164 : decode (xb yyM_weeps) 164 = .ok (.aload_n 0, 1) := by decide +kernel
theorem dM_weeps_165 : decode (xb yyM_weeps) 165 = .ok (.getfield 7, 3) := by decide +kernel
theorem dM_weeps_168 : decode (xb yyM_weeps) 168 = .ok (.bipush 20, 2) := by decide +kernel
theorem dM_weeps_170 : decode (xb yyM_weeps) 170 = .ok (.iload 11, 2) := by decide +kernel
theorem dM_weeps_172 : decode (xb yyM_weeps) 172 = .ok (.iadd, 1) := by decide +kernel
theorem dM_weeps_173 : decode (xb yyM_weeps) 173 = .ok (.iaload, 1) := by decide +kernel
theorem dM_weeps_174 : decode (xb yyM_weeps) 174 = .ok (.goto 35, 3) := by decide +kernel
theorem dM_weeps_177 : decode (xb yyM_weeps) 177 = .ok (.aload_n 0, 1) := by decide +kernel
theorem dM_weeps_178 : decode (xb yyM_weeps) 178 = .ok (.getfield 7, 3) := by decide +kernel
theorem dM_weeps_181 : decode (xb yyM_weeps) 181 = .ok (.bipush 20, 2) := by decide +kernel
theorem dM_weeps_183 : decode (xb yyM_weeps) 183 = .ok (.iload 11, 2) := by decide +kernel
theorem dM_weeps_185 : decode (xb yyM_weeps) 185 = .ok (.iadd, 1) := by decide +kernel
theorem dM_weeps_186 : decode (xb yyM_weeps) 186 = .ok (.iaload, 1) := by decide +kernel
theorem dM_weeps_187 : decode (xb yyM_weeps) 187 = .ok (.bipush 6, 2) := by decide +kernel
theorem dM_weeps_189 : decode (xb yyM_weeps) 189 = .ok (.if_icmp .le 8, 3) := by decide +kernel
theorem dM_weeps_192 : decode (xb yyM_weeps) 192 = .ok (.bipush 9, 2) := by decide +kernel
theorem dM_weeps_194 : decode (xb yyM_weeps) 194 = .ok (.goto 15, 3) := by decide +kernel
theorem dM_weeps_197 : decode (xb yyM_weeps) 197 = .ok (.aload_n 0, 1) := by decide +kernel
theorem dM_weeps_198 : decode (xb yyM_weeps) 198 = .ok (.getfield 7, 3) := by decide +kernel
theorem dM_weeps_201 : decode (xb yyM_weeps) 201 = .ok (.bipush 20, 2) := by decide +kernel
theorem dM_weeps_203 : decode (xb yyM_weeps) 203 = .ok (.iload 11, 2) := by decide +kernel
theorem dM_weeps_205 : decode (xb yyM_weeps) 205 = .ok (.iadd, 1) := by decide +kernel
theorem dM_weeps_206 : decode (xb yyM_weeps) 206 = .ok (.iaload, 1) := by decide +kernel
theorem dM_weeps_207 : decode (xb yyM_weeps) 207 = .ok (.iconst 3, 1) := by decide +kernel
theorem dM_weeps_208 : decode (xb yyM_weeps) 208 = .ok (.iadd, 1) := by decide +kernel
theorem dM_weeps_209 : decode (xb yyM_weeps) 209 = .ok (.iastore, 1) := by decide +kernel
theorem dM_weeps_210 : decode (xb yyM_weeps) 210 = .ok (.goto 16, 3) := by decide +kernel
theorem dM_weeps_213 : decode (xb yyM_weeps) 213 = .ok (.iload 8, 2) := by decide +kernel
theorem dM_weeps_215 : decode (xb yyM_weeps) 215 = .ok (.iload 11, 2) := by decide +kernel
theorem dM_weeps_217 : decode (xb yyM_weeps) 217 = .ok (.invokestatic 220, 3) := by decide +kernel
theorem dM_weeps_220 : decode (xb yyM_weeps) 220 = .ok (.ifCond .eq 6, 3) := by decide +kernel
theorem dM_weeps_223 : decode (xb yyM_weeps) 223 = .ok (.lconst 0, 1) := by decide +kernel
theorem dM_weeps_224 : decode (xb yyM_weeps) 224 = .ok (.lstore 9, 2) := by decide +kernel
theorem dM_weeps_226 : decode (xb yyM_weeps) 226 = .ok (.iinc 11 1, 3) := by decide +kernel
theorem dM_weeps_229 : decode (xb yyM_weeps) 229 = .ok (.goto (-135), 3) := by decide +kernel
theorem dM_weeps_232 : decode (xb yyM_weeps) 232 = .ok (.lload 4, 2) := by decide +kernel
theorem dM_weeps_234 : decode (xb yyM_weeps) 234 = .ok (.lload 9, 2) := by decide +kernel
theorem dM_weeps_236 : decode (xb yyM_weeps) 236 = .ok (.aload_n 0, 1) := by decide +kernel
theorem dM_weeps_237 : decode (xb yyM_weeps) 237 = .ok (.sipush 1704, 3) := by decide +kernel
theorem dM_weeps_240 : decode (xb yyM_weeps) 240 = .ok (.iload_n 1, 1) := by decide +kernel
theorem dM_weeps_241 : decode (xb yyM_weeps) 241 = .ok (.iload_n 2, 1) := by decide +kernel
theorem dM_weeps_242 : decode (xb yyM_weeps) 242 = .ok (.invokevirtual 209, 3) := by decide +kernel
theorem dM_weeps_245 : decode (xb yyM_weeps) 245 = .ok (.i2l, 1) := by decide +kernel
theorem dM_weeps_246 : decode (xb yyM_weeps) 246 = .ok (.lmul, 1) := by decide +kernel
theorem dM_weeps_247 : decode (xb yyM_weeps) 247 = .ok (.ladd, 1) := by decide +kernel
theorem dM_weeps_248 : decode (xb yyM_weeps) 248 = .ok (.lstore 4, 2) := by decide +kernel
theorem dM_weeps_250 : decode (xb yyM_weeps) 250 = .ok (.iinc 8 1, 3) := by decide +kernel
theorem dM_weeps_253 : decode (xb yyM_weeps) 253 = .ok (.goto (-182), 3) := by decide +kernel
theorem dM_weeps_256 : decode (xb yyM_weeps) 256 = .ok (.lload 4, 2) := by decide +kernel
theorem dM_weeps_258 : decode (xb yyM_weeps) 258 = .ok (.lstore 8, 2) := by decide +kernel
theorem dM_weeps_260 : decode (xb yyM_weeps) 260 = .ok (.lload 6, 2) := by decide +kernel
theorem dM_weeps_262 : decode (xb yyM_weeps) 262 = .ok (.lstore 10, 2) := by decide +kernel
theorem dM_weeps_264 : decode (xb yyM_weeps) 264 = .ok (.lload 10, 2) := by decide +kernel
theorem dM_weeps_266 : decode (xb yyM_weeps) 266 = .ok (.lconst 0, 1) := by decide +kernel
theorem dM_weeps_267 : decode (xb yyM_weeps) 267 = .ok (.lcmp, 1) := by decide +kernel
theorem dM_weeps_268 : decode (xb yyM_weeps) 268 = .ok (.ifCond .eq 21, 3) := by decide +kernel
theorem dM_weeps_271 : decode (xb yyM_weeps) 271 = .ok (.lload 8, 2) := by decide +kernel
theorem dM_weeps_273 : decode (xb yyM_weeps) 273 = .ok (.lload 10, 2) := by decide +kernel
theorem dM_weeps_275 : decode (xb yyM_weeps) 275 = .ok (.lrem, 1) := by decide +kernel
theorem dM_weeps_276 : decode (xb yyM_weeps) 276 = .ok (.lstore 12, 2) := by decide +kernel
theorem dM_weeps_278 : decode (xb yyM_weeps) 278 = .ok (.lload 10, 2) := by decide +kernel
theorem dM_weeps_280 : decode (xb yyM_weeps) 280 = .ok (.lstore 8, 2) := by decide +kernel
theorem dM_weeps_282 : decode (xb yyM_weeps) 282 = .ok (.lload 12, 2) := by decide +kernel
theorem dM_weeps_284 : decode (xb yyM_weeps) 284 = .ok (.lstore 10, 2) := by decide +kernel
theorem dM_weeps_286 : decode (xb yyM_weeps) 286 = .ok (.goto (-22), 3) := by decide +kernel
theorem dM_weeps_289 : decode (xb yyM_weeps) 289 = .ok (.aload_n 0, 1) := by decide +kernel
theorem dM_weeps_290 : decode (xb yyM_weeps) 290 = .ok (.lload 4, 2) := by decide +kernel
theorem dM_weeps_292 : decode (xb yyM_weeps) 292 = .ok (.lload 8, 2) := by decide +kernel
theorem dM_weeps_294 : decode (xb yyM_weeps) 294 = .ok (.ldiv, 1) := by decide +kernel
theorem dM_weeps_295 : decode (xb yyM_weeps) 295 = .ok (.putfield 20, 3) := by decide +kernel
theorem dM_weeps_298 : decode (xb yyM_weeps) 298 = .ok (.aload_n 0, 1) := by decide +kernel
theorem dM_weeps_299 : decode (xb yyM_weeps) 299 = .ok (.lload 6, 2) := by decide +kernel
theorem dM_weeps_301 : decode (xb yyM_weeps) 301 = .ok (.lload 8, 2) := by decide +kernel
theorem dM_weeps_303 : decode (xb yyM_weeps) 303 = .ok (.ldiv, 1) := by decide +kernel
theorem dM_weeps_304 : decode (xb yyM_weeps) 304 = .ok (.putfield 24, 3) := by decide +kernel
theorem dM_weeps_307 : decode (xb yyM_weeps) 307 = .ok (.iconst 1, 1) := by decide +kernel
theorem dM_weeps_308 : decode (xb yyM_weeps) 308 = .ok (.ireturn, 1) := by decide +kernel
def fM_weeps_l264  : Nat → Int64 → Int64 → Int64 → Int64 → xM → Option (Int32 × xM)
  | 0, _, _, _, _, _ => none
  | n + 1, v4, v6, v8, v10, m => (if (lg_cmp v10 (0 : Int64)) = 0 then xdl v8 (xdl v8 (some ((1 : Int32), (xsel (xsel m 0 (v4 / v8)) 1 (v6 / v8))))) else xdl v10 (fM_weeps_l264 n v4 v6 v10 (v8 - v8 / v10 * v10) m))
def fM_weeps_b226 (k71 : Int32 → Int32 → Int32 → Int64 → Int64 → Int32 → xM → Option (Int32 × xM)) (k94 : Int32 → Int32 → Int32 → Int64 → Int64 → Int32 → Int64 → Int32 → xM → Option (Int32 × xM)) (v1 : Int32) (v2 : Int32) (v3 : Int32) (v4 : Int64) (v6 : Int64) (v8 : Int32) (v9 : Int64) (v11 : Int32) (m : xM) : Option (Int32 × xM) := k94 v1 v2 v3 v4 v6 v8 v9 (v11 + 1) m
def fM_weeps_b209 (k71 : Int32 → Int32 → Int32 → Int64 → Int64 → Int32 → xM → Option (Int32 × xM)) (k94 : Int32 → Int32 → Int32 → Int64 → Int64 → Int32 → Int64 → Int32 → xM → Option (Int32 × xM)) (v1 : Int32) (v2 : Int32) (v3 : Int32) (v4 : Int64) (v6 : Int64) (v8 : Int32) (v9 : Int64) (v11 : Int32) (s0 : Int32) (s1 : Int32) (m : xM) : Option (Int32 × xM) := xck 1752 s1 (fM_weeps_b226 k71 k94 v1 v2 v3 v4 v6 v8 v9 v11 (xset m 0 s1.toNatClampNeg s0))
def fM_weeps_b141 (k71 : Int32 → Int32 → Int32 → Int64 → Int64 → Int32 → xM → Option (Int32 × xM)) (k94 : Int32 → Int32 → Int32 → Int64 → Int64 → Int32 → Int64 → Int32 → xM → Option (Int32 × xM)) (v1 : Int32) (v2 : Int32) (v3 : Int32) (v4 : Int64) (v6 : Int64) (v8 : Int32) (v11 : Int32) (s0 : Int64) (s1 : Int64) (m : xM) : Option (Int32 × xM) := (fM_has v8 v11).bind fun r158 => (if r158 = 0 then xck 1752 ((20 : Int32) + v11) (fM_weeps_b209 k71 k94 v1 v2 v3 v4 v6 v8 (s1 * s0) v11 (m.1 0 ((20 : Int32) + v11).toNatClampNeg) ((1724 : Int32) + v11) m) else xck 1752 ((20 : Int32) + v11) ((if (m.1 0 ((20 : Int32) + v11).toNatClampNeg) ≤ (6 : Int32) then xck 1752 ((20 : Int32) + v11) (fM_weeps_b209 k71 k94 v1 v2 v3 v4 v6 v8 (s1 * s0) v11 ((m.1 0 ((20 : Int32) + v11).toNatClampNeg) + (3 : Int32)) ((1724 : Int32) + v11) m) else fM_weeps_b209 k71 k94 v1 v2 v3 v4 v6 v8 (s1 * s0) v11 (9 : Int32) ((1724 : Int32) + v11) m)))
def fM_weeps_l94 (k71 : Int32 → Int32 → Int32 → Int64 → Int64 → Int32 → xM → Option (Int32 × xM)) : Nat → Int32 → Int32 → Int32 → Int64 → Int64 → Int32 → Int64 → Int32 → xM → Option (Int32 × xM)
  | 0, _, _, _, _, _, _, _, _, _ => none
  | n + 1, v1, v2, v3, v4, v6, v8, v9, v11, m => xck 1752 (0 : Int32) ((if (m.1 0 (0 : Int32).toNatClampNeg) ≤ v11 then (fM_playsIn m (1704 : Int32) v1 v2).bind fun r242 => k71 v1 v2 v3 (v4 + (v9 * ((r242).toInt64))) v6 (v8 + 1) m else xck 1752 ((38 : Int32) + v11) ((if (m.1 0 ((38 : Int32) + v11).toNatClampNeg) = v1 then (fM_has v8 v11).bind fun r125 => (if r125 = 0 then fM_weeps_b141 k71 (fM_weeps_l94 k71 n) v1 v2 v3 v4 v6 v8 v11 ((((10 : Int32) - v3)).toInt64) v9 m else fM_weeps_b141 k71 (fM_weeps_l94 k71 n) v1 v2 v3 v4 v6 v8 v11 ((v3).toInt64) v9 m) else (fM_has v8 v11).bind fun r217 => (if r217 = 0 then fM_weeps_b226 k71 (fM_weeps_l94 k71 n) v1 v2 v3 v4 v6 v8 v9 v11 m else fM_weeps_b226 k71 (fM_weeps_l94 k71 n) v1 v2 v3 v4 v6 v8 (0 : Int64) v11 m)))))
def fM_weeps_l71  : Nat → Int32 → Int32 → Int32 → Int64 → Int64 → Int32 → xM → Option (Int32 × xM)
  | 0, _, _, _, _, _, _, _ => none
  | n + 1, v1, v2, v3, v4, v6, v8, m => xck 1752 (0 : Int32) ((if ((1 : Int32) <<< ((m.1 0 (0 : Int32).toNatClampNeg) &&& 31)) ≤ v8 then fM_weeps_l264 xfu v4 v6 v4 v6 m else (fM_tries m).bind fun r88 => fM_weeps_l94 (fM_weeps_l71 n) xfu v1 v2 v3 v4 v6 v8 (1 : Int64) (0 : Int32) r88))
def fM_weeps_l43  : Nat → Int32 → Int32 → Int32 → Int64 → Int64 → Int32 → xM → Option (Int32 × xM)
  | 0, _, _, _, _, _, _, _ => none
  | n + 1, v1, v2, v3, v4, v6, v8, m => (fM_boardsOf m (0 : Int32) v1).bind fun r48 => (if r48 ≤ v8 then fM_weeps_l71 xfu v1 v2 v3 v4 v6 (0 : Int32) m else fM_weeps_l43 n v1 v2 v3 v4 (v6 * (10 : Int64)) (v8 + 1) m)
def fM_weeps  (v1 : Int32) (v2 : Int32) (v3 : Int32) (m : xM) : Option (Int32 × xM) := (fM_isInstrument m v1).bind fun r2 => (if r2 = 0 then (fM_bad (-2 : Int32) m).bind fun r30 => some (r30.1, r30.2) else (fM_isString v2).bind fun r9 => (if r9 = 0 then (fM_bad (-2 : Int32) m).bind fun r30 => some (r30.1, r30.2) else (fM_in ((v3).toInt64) (0 : Int64) (10 : Int64)).bind fun r21 => (if r21 = 0 then (fM_bad (-2 : Int32) m).bind fun r30 => some (r30.1, r30.2) else fM_weeps_l43 xfu v1 v2 v3 (0 : Int64) (1 : Int64) (0 : Int32) m)))
set_option maxRecDepth 100000 in
set_option maxHeartbeats 4000000 in
theorem kM_weeps_l264 (G : xG)   (z : xM)    : ∀ (n : Nat) (v4 : Int64) (v6 : Int64) (v8 : Int64) (v10 : Int64) (m : xM), xR G yyM_weeps (emim z) 264 [(0, .ref (xa G 85)), (4, .long v4), (6, .long v6), (8, .long v8), (10, .long v10)] [] (z, m) (fM_weeps_l264  n v4 v6 v8 v10 m) := by
  intro n
  induction n with
  | zero =>
    intro v4 v6 v8 v10 m
    rw [fM_weeps_l264]
    exact xR_none
  | succ n ih =>
    intro v4 v6 v8 v10 m
    rw [fM_weeps_l264]
    refine xR_ll 264 4 dM_weeps_264 rfl ?_
    refine xR_lc 266 (0 : Int64) dM_weeps_266 (by decide) ?_
    refine xR_lcmp 267 dM_weeps_267 ?_
    refine xR_ifeq 268 289 dM_weeps_268 (by decide) ?_ ?_
    · refine xR_aln 289 0 dM_weeps_289 rfl rfl ?_
      refine xR_ll 290 1 dM_weeps_290 rfl ?_
      refine xR_ll 292 3 dM_weeps_292 rfl ?_
      refine xR_dl (fun hd294 => ?_)
      refine xR_ldiv 294 dM_weeps_294 hd294 ?_
      refine xR_putf 295 xcf7 4 85 (by decide) (by decide) rfl rfl rfl rfl (Nat.le_of_ble_eq_true rfl) (z, (xsel m 0 (v4 / v8))) (xW_mlng (i := 0) rfl) fl_RX9_20 dM_weeps_295 ?_
      refine xR_aln 298 0 dM_weeps_298 rfl rfl ?_
      refine xR_ll 299 2 dM_weeps_299 rfl ?_
      refine xR_ll 301 3 dM_weeps_301 rfl ?_
      refine xR_dl (fun hd303 => ?_)
      refine xR_ldiv 303 dM_weeps_303 hd303 ?_
      refine xR_putf 304 xcf7 5 85 (by decide) (by decide) rfl rfl rfl rfl (Nat.le_of_ble_eq_true rfl) (z, (xsel (xsel m 0 (v4 / v8)) 1 (v6 / v8))) (xW_mlng (i := 1) rfl) fl_RX9_24 dM_weeps_304 ?_
      refine xR_ic 307 (1 : Int32) dM_weeps_307 (by decide) ?_
      exact xR_iret 308 rfl rfl dM_weeps_308
    · refine xR_ll 271 3 dM_weeps_271 rfl ?_
      refine xR_ll 273 4 dM_weeps_273 rfl ?_
      refine xR_dl (fun hd275 => ?_)
      refine xR_lrem 275 dM_weeps_275 hd275 ?_
      refine xR_ls 276 ([(12, .long (v8 - v8 / v10 * v10)), (0, .ref (xa G 85)), (4, .long v4), (6, .long v6), (8, .long v8), (10, .long v10)]) dM_weeps_276 (by decide) rfl ?_
      refine xR_ll 278 5 dM_weeps_278 rfl ?_
      refine xR_ls 280 ([(8, .long v10), (12, .long (v8 - v8 / v10 * v10)), (0, .ref (xa G 85)), (4, .long v4), (6, .long v6), (10, .long v10)]) dM_weeps_280 (by decide) rfl ?_
      refine xR_ll 282 1 dM_weeps_282 rfl ?_
      refine xR_ls 284 ([(10, .long (v8 - v8 / v10 * v10)), (8, .long v10), (12, .long (v8 - v8 / v10 * v10)), (0, .ref (xa G 85)), (4, .long v4), (6, .long v6)]) dM_weeps_284 (by decide) rfl ?_
      refine xR_goto 286 264 dM_weeps_286 (by decide) ?_
      exact xR_sub [3, 4, 5, 1, 0] rfl (ih v4 v6 v10 (v8 - v8 / v10 * v10) m)
set_option maxRecDepth 100000 in
set_option maxHeartbeats 4000000 in
theorem kM_weeps_b226 (G : xG)   (z : xM)  (k71 : Int32 → Int32 → Int32 → Int64 → Int64 → Int32 → xM → Option (Int32 × xM)) (k94 : Int32 → Int32 → Int32 → Int64 → Int64 → Int32 → Int64 → Int32 → xM → Option (Int32 × xM)) (hk71 : ∀ (v1 : Int32) (v2 : Int32) (v3 : Int32) (v4 : Int64) (v6 : Int64) (v8 : Int32) (m : xM), xR G yyM_weeps (emim z) 71 [(0, .ref (xa G 85)), (1, .int v1), (2, .int v2), (3, .int v3), (4, .long v4), (6, .long v6), (8, .int v8)] [] (z, m) (k71 v1 v2 v3 v4 v6 v8 m)) (hk94 : ∀ (v1 : Int32) (v2 : Int32) (v3 : Int32) (v4 : Int64) (v6 : Int64) (v8 : Int32) (v9 : Int64) (v11 : Int32) (m : xM), xR G yyM_weeps (emim z) 94 [(0, .ref (xa G 85)), (1, .int v1), (2, .int v2), (3, .int v3), (4, .long v4), (6, .long v6), (8, .int v8), (9, .long v9), (11, .int v11)] [] (z, m) (k94 v1 v2 v3 v4 v6 v8 v9 v11 m)) (v1 : Int32) (v2 : Int32) (v3 : Int32) (v4 : Int64) (v6 : Int64) (v8 : Int32) (v9 : Int64) (v11 : Int32) (m : xM) : xR G yyM_weeps (emim z) 226 [(0, .ref (xa G 85)), (1, .int v1), (2, .int v2), (3, .int v3), (4, .long v4), (6, .long v6), (8, .int v8), (9, .long v9), (11, .int v11)] [] (z, m) (fM_weeps_b226 k71 k94 v1 v2 v3 v4 v6 v8 v9 v11 m) := by
  unfold fM_weeps_b226
  refine xR_iinc 226 8 (v11 + 1) ([(11, .int (v11 + 1)), (0, .ref (xa G 85)), (1, .int v1), (2, .int v2), (3, .int v3), (4, .long v4), (6, .long v6), (8, .int v8), (9, .long v9)]) dM_weeps_226 rfl rfl (by decide) rfl ?_
  refine xR_goto 229 94 dM_weeps_229 (by decide) ?_
  exact xR_sub [1, 2, 3, 4, 5, 6, 7, 8, 0] rfl (hk94 v1 v2 v3 v4 v6 v8 v9 (v11 + 1) m)
set_option maxRecDepth 100000 in
set_option maxHeartbeats 4000000 in
theorem kM_weeps_b209 (G : xG)   (z : xM)  (k71 : Int32 → Int32 → Int32 → Int64 → Int64 → Int32 → xM → Option (Int32 × xM)) (k94 : Int32 → Int32 → Int32 → Int64 → Int64 → Int32 → Int64 → Int32 → xM → Option (Int32 × xM)) (hk71 : ∀ (v1 : Int32) (v2 : Int32) (v3 : Int32) (v4 : Int64) (v6 : Int64) (v8 : Int32) (m : xM), xR G yyM_weeps (emim z) 71 [(0, .ref (xa G 85)), (1, .int v1), (2, .int v2), (3, .int v3), (4, .long v4), (6, .long v6), (8, .int v8)] [] (z, m) (k71 v1 v2 v3 v4 v6 v8 m)) (hk94 : ∀ (v1 : Int32) (v2 : Int32) (v3 : Int32) (v4 : Int64) (v6 : Int64) (v8 : Int32) (v9 : Int64) (v11 : Int32) (m : xM), xR G yyM_weeps (emim z) 94 [(0, .ref (xa G 85)), (1, .int v1), (2, .int v2), (3, .int v3), (4, .long v4), (6, .long v6), (8, .int v8), (9, .long v9), (11, .int v11)] [] (z, m) (k94 v1 v2 v3 v4 v6 v8 v9 v11 m)) (v1 : Int32) (v2 : Int32) (v3 : Int32) (v4 : Int64) (v6 : Int64) (v8 : Int32) (v9 : Int64) (v11 : Int32) (s0 : Int32) (s1 : Int32) (m : xM) : xR G yyM_weeps (emim z) 209 [(0, .ref (xa G 85)), (1, .int v1), (2, .int v2), (3, .int v3), (4, .long v4), (6, .long v6), (8, .int v8), (9, .long v9), (11, .int v11)] [.int s0, .int s1, .ref (xa G 86)] (z, m) (fM_weeps_b209 k71 k94 v1 v2 v3 v4 v6 v8 v9 v11 s0 s1 m) := by
  unfold fM_weeps_b209
  refine xR_iast 209 86 (by decide) rfl (z, (xset m 0 s1.toNatClampNeg s0)) xW_m0 dM_weeps_209 ?_
  refine xR_goto 210 226 dM_weeps_210 (by decide) ?_
  exact kM_weeps_b226 G z k71 k94 hk71 hk94 v1 v2 v3 v4 v6 v8 v9 v11 (xset m 0 s1.toNatClampNeg s0)
set_option maxRecDepth 100000 in
set_option maxHeartbeats 4000000 in
theorem kM_weeps_b141 (G : xG)   (z : xM)  (k71 : Int32 → Int32 → Int32 → Int64 → Int64 → Int32 → xM → Option (Int32 × xM)) (k94 : Int32 → Int32 → Int32 → Int64 → Int64 → Int32 → Int64 → Int32 → xM → Option (Int32 × xM)) (hk71 : ∀ (v1 : Int32) (v2 : Int32) (v3 : Int32) (v4 : Int64) (v6 : Int64) (v8 : Int32) (m : xM), xR G yyM_weeps (emim z) 71 [(0, .ref (xa G 85)), (1, .int v1), (2, .int v2), (3, .int v3), (4, .long v4), (6, .long v6), (8, .int v8)] [] (z, m) (k71 v1 v2 v3 v4 v6 v8 m)) (hk94 : ∀ (v1 : Int32) (v2 : Int32) (v3 : Int32) (v4 : Int64) (v6 : Int64) (v8 : Int32) (v9 : Int64) (v11 : Int32) (m : xM), xR G yyM_weeps (emim z) 94 [(0, .ref (xa G 85)), (1, .int v1), (2, .int v2), (3, .int v3), (4, .long v4), (6, .long v6), (8, .int v8), (9, .long v9), (11, .int v11)] [] (z, m) (k94 v1 v2 v3 v4 v6 v8 v9 v11 m)) (v1 : Int32) (v2 : Int32) (v3 : Int32) (v4 : Int64) (v6 : Int64) (v8 : Int32) (v11 : Int32) (s0 : Int64) (s1 : Int64) (m : xM) : xR G yyM_weeps (emim z) 141 [(0, .ref (xa G 85)), (1, .int v1), (2, .int v2), (3, .int v3), (4, .long v4), (6, .long v6), (8, .int v8), (11, .int v11)] [.long s0, .long s1] (z, m) (fM_weeps_b141 k71 k94 v1 v2 v3 v4 v6 v8 v11 s0 s1 m) := by
  unfold fM_weeps_b141
  refine xR_lmul 141 dM_weeps_141 ?_
  refine xR_ls 142 ([(9, .long (s1 * s0)), (0, .ref (xa G 85)), (1, .int v1), (2, .int v2), (3, .int v3), (4, .long v4), (6, .long v6), (8, .int v8), (11, .int v11)]) dM_weeps_142 (by decide) rfl ?_
  refine xR_aln 144 1 dM_weeps_144 rfl rfl ?_
  refine xR_getf 145 xcf7 0 85 (by decide) (by decide) rfl (v := .ref (xa G 86)) rfl fl_RX9_7 dM_weeps_145 ?_
  refine xR_sp 148 (1724 : Int32) dM_weeps_148 (by decide) ?_
  refine xR_il 151 8 dM_weeps_151 rfl ?_
  refine xR_iadd 153 dM_weeps_153 ?_
  refine xR_il 154 7 dM_weeps_154 rfl ?_
  refine xR_il 156 8 dM_weeps_156 rfl ?_
  refine xR_callSi 158 cs_M_has ml_RX9_220 ⟨Nat.le_of_ble_eq_true rfl, Nat.le_of_ble_eq_true rfl⟩ [.int v8, .int v11] rfl rfl (Nat.le_of_ble_eq_true rfl) dM_weeps_158 (kM_has G (z, m) v8 v11) (fun r158 => ?_)
  refine xR_ifne 161 177 dM_weeps_161 (by decide) ?_ ?_
  · refine xR_aln 177 1 dM_weeps_177 rfl rfl ?_
    refine xR_getf 178 xcf7 0 85 (by decide) (by decide) rfl (v := .ref (xa G 86)) rfl fl_RX9_7 dM_weeps_178 ?_
    refine xR_bp 181 (20 : Int32) dM_weeps_181 (by decide) ?_
    refine xR_il 183 8 dM_weeps_183 rfl ?_
    refine xR_iadd 185 dM_weeps_185 ?_
    refine xR_iald 186 86 (by decide) rfl dM_weeps_186 ?_
    refine xR_bp 187 (6 : Int32) dM_weeps_187 (by decide) ?_
    refine xR_icle 189 197 dM_weeps_189 (by decide) ?_ ?_
    · refine xR_aln 197 1 dM_weeps_197 rfl rfl ?_
      refine xR_getf 198 xcf7 0 85 (by decide) (by decide) rfl (v := .ref (xa G 86)) rfl fl_RX9_7 dM_weeps_198 ?_
      refine xR_bp 201 (20 : Int32) dM_weeps_201 (by decide) ?_
      refine xR_il 203 8 dM_weeps_203 rfl ?_
      refine xR_iadd 205 dM_weeps_205 ?_
      refine xR_iald 206 86 (by decide) rfl dM_weeps_206 ?_
      refine xR_ic 207 (3 : Int32) dM_weeps_207 (by decide) ?_
      refine xR_iadd 208 dM_weeps_208 ?_
      exact xR_sub [1, 2, 3, 4, 5, 6, 7, 0, 8] rfl (kM_weeps_b209 G z k71 k94 hk71 hk94 v1 v2 v3 v4 v6 v8 (s1 * s0) v11 ((m.1 0 ((20 : Int32) + v11).toNatClampNeg) + (3 : Int32)) ((1724 : Int32) + v11) m)
    · refine xR_bp 192 (9 : Int32) dM_weeps_192 (by decide) ?_
      refine xR_goto 194 209 dM_weeps_194 (by decide) ?_
      exact xR_sub [1, 2, 3, 4, 5, 6, 7, 0, 8] rfl (kM_weeps_b209 G z k71 k94 hk71 hk94 v1 v2 v3 v4 v6 v8 (s1 * s0) v11 (9 : Int32) ((1724 : Int32) + v11) m)
  · refine xR_aln 164 1 dM_weeps_164 rfl rfl ?_
    refine xR_getf 165 xcf7 0 85 (by decide) (by decide) rfl (v := .ref (xa G 86)) rfl fl_RX9_7 dM_weeps_165 ?_
    refine xR_bp 168 (20 : Int32) dM_weeps_168 (by decide) ?_
    refine xR_il 170 8 dM_weeps_170 rfl ?_
    refine xR_iadd 172 dM_weeps_172 ?_
    refine xR_iald 173 86 (by decide) rfl dM_weeps_173 ?_
    refine xR_goto 174 209 dM_weeps_174 (by decide) ?_
    exact xR_sub [1, 2, 3, 4, 5, 6, 7, 0, 8] rfl (kM_weeps_b209 G z k71 k94 hk71 hk94 v1 v2 v3 v4 v6 v8 (s1 * s0) v11 (m.1 0 ((20 : Int32) + v11).toNatClampNeg) ((1724 : Int32) + v11) m)
set_option maxRecDepth 100000 in
set_option maxHeartbeats 4000000 in
theorem kM_weeps_l94 (G : xG)   (z : xM)  (k71 : Int32 → Int32 → Int32 → Int64 → Int64 → Int32 → xM → Option (Int32 × xM)) (hk71 : ∀ (v1 : Int32) (v2 : Int32) (v3 : Int32) (v4 : Int64) (v6 : Int64) (v8 : Int32) (m : xM), xR G yyM_weeps (emim z) 71 [(0, .ref (xa G 85)), (1, .int v1), (2, .int v2), (3, .int v3), (4, .long v4), (6, .long v6), (8, .int v8)] [] (z, m) (k71 v1 v2 v3 v4 v6 v8 m)) : ∀ (n : Nat) (v1 : Int32) (v2 : Int32) (v3 : Int32) (v4 : Int64) (v6 : Int64) (v8 : Int32) (v9 : Int64) (v11 : Int32) (m : xM), xR G yyM_weeps (emim z) 94 [(0, .ref (xa G 85)), (1, .int v1), (2, .int v2), (3, .int v3), (4, .long v4), (6, .long v6), (8, .int v8), (9, .long v9), (11, .int v11)] [] (z, m) (fM_weeps_l94 k71 n v1 v2 v3 v4 v6 v8 v9 v11 m) := by
  intro n
  induction n with
  | zero =>
    intro v1 v2 v3 v4 v6 v8 v9 v11 m
    rw [fM_weeps_l94]
    exact xR_none
  | succ n ih =>
    intro v1 v2 v3 v4 v6 v8 v9 v11 m
    rw [fM_weeps_l94]
    refine xR_il 94 8 dM_weeps_94 rfl ?_
    refine xR_aln 96 0 dM_weeps_96 rfl rfl ?_
    refine xR_getf 97 xcf7 0 85 (by decide) (by decide) rfl (v := .ref (xa G 86)) rfl fl_RX9_7 dM_weeps_97 ?_
    refine xR_ic 100 (0 : Int32) dM_weeps_100 (by decide) ?_
    refine xR_iald 101 86 (by decide) rfl dM_weeps_101 ?_
    refine xR_icge 102 232 dM_weeps_102 (by decide) ?_ ?_
    · refine xR_ll 232 4 dM_weeps_232 rfl ?_
      refine xR_ll 234 7 dM_weeps_234 rfl ?_
      refine xR_aln 236 0 dM_weeps_236 rfl rfl ?_
      refine xR_sp 237 (1704 : Int32) dM_weeps_237 (by decide) ?_
      refine xR_iln 240 1 dM_weeps_240 rfl rfl ?_
      refine xR_iln 241 2 dM_weeps_241 rfl rfl ?_
      refine xR_callVi 242 cv_M_playsIn ml_RX9_209 ⟨Nat.le_of_ble_eq_true rfl, Nat.le_of_ble_eq_true rfl⟩ xcf7 rfl 85 (by decide) rfl [.int (1704 : Int32), .int v1, .int v2] rfl rfl (Nat.le_of_ble_eq_true rfl) dM_weeps_242 (kM_playsIn G z m (1704 : Int32) v1 v2) (fun r242 => ?_)
      refine xR_i2l 245 dM_weeps_245 ?_
      refine xR_lmul 246 dM_weeps_246 ?_
      refine xR_ladd 247 dM_weeps_247 ?_
      refine xR_ls 248 ([(4, .long (v4 + (v9 * ((r242).toInt64)))), (0, .ref (xa G 85)), (1, .int v1), (2, .int v2), (3, .int v3), (6, .long v6), (8, .int v8), (9, .long v9), (11, .int v11)]) dM_weeps_248 (by decide) rfl ?_
      refine xR_iinc 250 6 (v8 + 1) ([(8, .int (v8 + 1)), (4, .long (v4 + (v9 * ((r242).toInt64)))), (0, .ref (xa G 85)), (1, .int v1), (2, .int v2), (3, .int v3), (6, .long v6), (9, .long v9), (11, .int v11)]) dM_weeps_250 rfl rfl (by decide) rfl ?_
      refine xR_goto 253 71 dM_weeps_253 (by decide) ?_
      exact xR_sub [2, 3, 4, 5, 1, 6, 0] rfl (hk71 v1 v2 v3 (v4 + (v9 * ((r242).toInt64))) v6 (v8 + 1) m)
    · refine xR_aln 105 0 dM_weeps_105 rfl rfl ?_
      refine xR_getf 106 xcf7 0 85 (by decide) (by decide) rfl (v := .ref (xa G 86)) rfl fl_RX9_7 dM_weeps_106 ?_
      refine xR_bp 109 (38 : Int32) dM_weeps_109 (by decide) ?_
      refine xR_il 111 8 dM_weeps_111 rfl ?_
      refine xR_iadd 113 dM_weeps_113 ?_
      refine xR_iald 114 86 (by decide) rfl dM_weeps_114 ?_
      refine xR_iln 115 1 dM_weeps_115 rfl rfl ?_
      refine xR_icne 116 213 dM_weeps_116 (by decide) ?_ ?_
      · refine xR_il 213 6 dM_weeps_213 rfl ?_
        refine xR_il 215 8 dM_weeps_215 rfl ?_
        refine xR_callSi 217 cs_M_has ml_RX9_220 ⟨Nat.le_of_ble_eq_true rfl, Nat.le_of_ble_eq_true rfl⟩ [.int v8, .int v11] rfl rfl (Nat.le_of_ble_eq_true rfl) dM_weeps_217 (kM_has G (z, m) v8 v11) (fun r217 => ?_)
        refine xR_ifeq 220 226 dM_weeps_220 (by decide) ?_ ?_
        · exact kM_weeps_b226 G z k71 (fM_weeps_l94 k71 n) hk71 ih v1 v2 v3 v4 v6 v8 v9 v11 m
        · refine xR_lc 223 (0 : Int64) dM_weeps_223 (by decide) ?_
          refine xR_ls 224 ([(9, .long (0 : Int64)), (0, .ref (xa G 85)), (1, .int v1), (2, .int v2), (3, .int v3), (4, .long v4), (6, .long v6), (8, .int v8), (11, .int v11)]) dM_weeps_224 (by decide) rfl ?_
          exact xR_sub [1, 2, 3, 4, 5, 6, 7, 0, 8] rfl (kM_weeps_b226 G z k71 (fM_weeps_l94 k71 n) hk71 ih v1 v2 v3 v4 v6 v8 (0 : Int64) v11 m)
      · refine xR_ll 119 7 dM_weeps_119 rfl ?_
        refine xR_il 121 6 dM_weeps_121 rfl ?_
        refine xR_il 123 8 dM_weeps_123 rfl ?_
        refine xR_callSi 125 cs_M_has ml_RX9_220 ⟨Nat.le_of_ble_eq_true rfl, Nat.le_of_ble_eq_true rfl⟩ [.int v8, .int v11] rfl rfl (Nat.le_of_ble_eq_true rfl) dM_weeps_125 (kM_has G (z, m) v8 v11) (fun r125 => ?_)
        refine xR_ifeq 128 136 dM_weeps_128 (by decide) ?_ ?_
        · refine xR_bp 136 (10 : Int32) dM_weeps_136 (by decide) ?_
          refine xR_iln 138 3 dM_weeps_138 rfl rfl ?_
          refine xR_isub 139 dM_weeps_139 ?_
          refine xR_i2l 140 dM_weeps_140 ?_
          exact xR_sub [0, 1, 2, 3, 4, 5, 6, 8] rfl (kM_weeps_b141 G z k71 (fM_weeps_l94 k71 n) hk71 ih v1 v2 v3 v4 v6 v8 v11 ((((10 : Int32) - v3)).toInt64) v9 m)
        · refine xR_iln 131 3 dM_weeps_131 rfl rfl ?_
          refine xR_i2l 132 dM_weeps_132 ?_
          refine xR_goto 133 141 dM_weeps_133 (by decide) ?_
          exact xR_sub [0, 1, 2, 3, 4, 5, 6, 8] rfl (kM_weeps_b141 G z k71 (fM_weeps_l94 k71 n) hk71 ih v1 v2 v3 v4 v6 v8 v11 ((v3).toInt64) v9 m)
set_option maxRecDepth 100000 in
set_option maxHeartbeats 4000000 in
theorem kM_weeps_l71 (G : xG)   (z : xM)    : ∀ (n : Nat) (v1 : Int32) (v2 : Int32) (v3 : Int32) (v4 : Int64) (v6 : Int64) (v8 : Int32) (m : xM), xR G yyM_weeps (emim z) 71 [(0, .ref (xa G 85)), (1, .int v1), (2, .int v2), (3, .int v3), (4, .long v4), (6, .long v6), (8, .int v8)] [] (z, m) (fM_weeps_l71  n v1 v2 v3 v4 v6 v8 m) := by
  intro n
  induction n with
  | zero =>
    intro v1 v2 v3 v4 v6 v8 m
    rw [fM_weeps_l71]
    exact xR_none
  | succ n ih =>
    intro v1 v2 v3 v4 v6 v8 m
    rw [fM_weeps_l71]
    refine xR_il 71 6 dM_weeps_71 rfl ?_
    refine xR_ic 73 (1 : Int32) dM_weeps_73 (by decide) ?_
    refine xR_aln 74 0 dM_weeps_74 rfl rfl ?_
    refine xR_getf 75 xcf7 0 85 (by decide) (by decide) rfl (v := .ref (xa G 86)) rfl fl_RX9_7 dM_weeps_75 ?_
    refine xR_ic 78 (0 : Int32) dM_weeps_78 (by decide) ?_
    refine xR_iald 79 86 (by decide) rfl dM_weeps_79 ?_
    refine xR_ishl 80 dM_weeps_80 ?_
    refine xR_icge 81 256 dM_weeps_81 (by decide) ?_ ?_
    · refine xR_ll 256 4 dM_weeps_256 rfl ?_
      refine xR_ls 258 ([(8, .long v4), (0, .ref (xa G 85)), (1, .int v1), (2, .int v2), (3, .int v3), (4, .long v4), (6, .long v6)]) dM_weeps_258 (by decide) rfl ?_
      refine xR_ll 260 6 dM_weeps_260 rfl ?_
      refine xR_ls 262 ([(10, .long v6), (8, .long v4), (0, .ref (xa G 85)), (1, .int v1), (2, .int v2), (3, .int v3), (4, .long v4), (6, .long v6)]) dM_weeps_262 (by decide) rfl ?_
      exact xR_sub [2, 6, 7, 1, 0] rfl (kM_weeps_l264 G z xfu v4 v6 v4 v6 m)
    · refine xR_lc 84 (1 : Int64) dM_weeps_84 (by decide) ?_
      refine xR_ls 85 ([(9, .long (1 : Int64)), (0, .ref (xa G 85)), (1, .int v1), (2, .int v2), (3, .int v3), (4, .long v4), (6, .long v6), (8, .int v8)]) dM_weeps_85 (by decide) rfl ?_
      refine xR_aln 87 1 dM_weeps_87 rfl rfl ?_
      refine xR_callVvm 88 cv_M_tries ml_RX9_212 ⟨Nat.le_of_ble_eq_true rfl, Nat.le_of_ble_eq_true rfl⟩ xcf7 rfl 85 (by decide) rfl [] rfl rfl (Nat.le_of_ble_eq_true rfl) dM_weeps_88 (kM_tries G z m) (fun r88 => ?_)
      refine xR_ic 91 (0 : Int32) dM_weeps_91 (by decide) ?_
      refine xR_is 92 ([(11, .int (0 : Int32)), (9, .long (1 : Int64)), (0, .ref (xa G 85)), (1, .int v1), (2, .int v2), (3, .int v3), (4, .long v4), (6, .long v6), (8, .int v8)]) dM_weeps_92 (by decide) rfl ?_
      exact xR_sub [2, 3, 4, 5, 6, 7, 8, 1, 0] rfl (kM_weeps_l94 G z (fM_weeps_l71 n) ih xfu v1 v2 v3 v4 v6 v8 (1 : Int64) (0 : Int32) r88)
set_option maxRecDepth 100000 in
set_option maxHeartbeats 4000000 in
theorem kM_weeps_l43 (G : xG)   (z : xM)    : ∀ (n : Nat) (v1 : Int32) (v2 : Int32) (v3 : Int32) (v4 : Int64) (v6 : Int64) (v8 : Int32) (m : xM), xR G yyM_weeps (emim z) 43 [(0, .ref (xa G 85)), (1, .int v1), (2, .int v2), (3, .int v3), (4, .long v4), (6, .long v6), (8, .int v8)] [] (z, m) (fM_weeps_l43  n v1 v2 v3 v4 v6 v8 m) := by
  intro n
  induction n with
  | zero =>
    intro v1 v2 v3 v4 v6 v8 m
    rw [fM_weeps_l43]
    exact xR_none
  | succ n ih =>
    intro v1 v2 v3 v4 v6 v8 m
    rw [fM_weeps_l43]
    refine xR_il 43 6 dM_weeps_43 rfl ?_
    refine xR_aln 45 0 dM_weeps_45 rfl rfl ?_
    refine xR_ic 46 (0 : Int32) dM_weeps_46 (by decide) ?_
    refine xR_iln 47 1 dM_weeps_47 rfl rfl ?_
    refine xR_callVi 48 cv_M_boardsOf ml_RX9_127 ⟨Nat.le_of_ble_eq_true rfl, Nat.le_of_ble_eq_true rfl⟩ xcf7 rfl 85 (by decide) rfl [.int (0 : Int32), .int v1] rfl rfl (Nat.le_of_ble_eq_true rfl) dM_weeps_48 (kM_boardsOf G z m (0 : Int32) v1) (fun r48 => ?_)
    refine xR_icge 51 68 dM_weeps_51 (by decide) ?_ ?_
    · refine xR_ic 68 (0 : Int32) dM_weeps_68 (by decide) ?_
      refine xR_is 69 ([(8, .int (0 : Int32)), (0, .ref (xa G 85)), (1, .int v1), (2, .int v2), (3, .int v3), (4, .long v4), (6, .long v6)]) dM_weeps_69 (by decide) rfl ?_
      exact xR_sub [1, 2, 3, 4, 5, 6, 0] rfl (kM_weeps_l71 G z xfu v1 v2 v3 v4 v6 (0 : Int32) m)
    · refine xR_ll 54 5 dM_weeps_54 rfl ?_
      refine xR_ldc2 56 cl_RX9_256 dM_weeps_56 ?_
      refine xR_lmul 59 dM_weeps_59 ?_
      refine xR_ls 60 ([(6, .long (v6 * (10 : Int64))), (0, .ref (xa G 85)), (1, .int v1), (2, .int v2), (3, .int v3), (4, .long v4), (8, .int v8)]) dM_weeps_60 (by decide) rfl ?_
      refine xR_iinc 62 6 (v8 + 1) ([(8, .int (v8 + 1)), (6, .long (v6 * (10 : Int64))), (0, .ref (xa G 85)), (1, .int v1), (2, .int v2), (3, .int v3), (4, .long v4)]) dM_weeps_62 rfl rfl (by decide) rfl ?_
      refine xR_goto 65 43 dM_weeps_65 (by decide) ?_
      exact xR_sub [2, 3, 4, 5, 6, 1, 0] rfl (ih v1 v2 v3 v4 (v6 * (10 : Int64)) (v8 + 1) m)
set_option maxRecDepth 100000 in
set_option maxHeartbeats 4000000 in
theorem kM_weeps (G : xG)   (z : xM) (m : xM) (v1 : Int32) (v2 : Int32) (v3 : Int32) : ∀ a, fM_weeps  v1 v2 v3 m = some a → xCt G yyM_weeps [.ref (xa G 85), .int v1, .int v2, .int v3] (z, m) (some (.int a.1)) (z, a.2) := by
  refine xR_ct (em := (emim z)) rfl (Nat.le_of_ble_eq_true rfl) ?_
  show xR G yyM_weeps _ 0 [(0, .ref (xa G 85)), (1, .int v1), (2, .int v2), (3, .int v3)] [] _ _
  unfold fM_weeps
  refine xR_aln 0 0 dM_weeps_0 rfl rfl ?_
  refine xR_iln 1 1 dM_weeps_1 rfl rfl ?_
  refine xR_callVi 2 cv_M_isInstrument ml_RX9_177 ⟨Nat.le_of_ble_eq_true rfl, Nat.le_of_ble_eq_true rfl⟩ xcf7 rfl 85 (by decide) rfl [.int v1] rfl rfl (Nat.le_of_ble_eq_true rfl) dM_weeps_2 (kM_isInstrument G z m v1) (fun r2 => ?_)
  refine xR_ifeq 5 27 dM_weeps_5 (by decide) ?_ ?_
  · refine xR_aln 27 0 dM_weeps_27 rfl rfl ?_
    refine xR_bp 28 (-2 : Int32) dM_weeps_28 (by decide) ?_
    refine xR_callVim 30 cv_M_bad ml_RX9_66 ⟨Nat.le_of_ble_eq_true rfl, Nat.le_of_ble_eq_true rfl⟩ xcf7 rfl 85 (by decide) rfl [.int (-2 : Int32)] rfl rfl (Nat.le_of_ble_eq_true rfl) dM_weeps_30 (kM_bad G z m (-2 : Int32)) (fun r30 => ?_)
    exact xR_iret 33 rfl rfl dM_weeps_33
  · refine xR_iln 8 2 dM_weeps_8 rfl rfl ?_
    refine xR_callSi 9 cs_M_isString ml_RX9_206 ⟨Nat.le_of_ble_eq_true rfl, Nat.le_of_ble_eq_true rfl⟩ [.int v2] rfl rfl (Nat.le_of_ble_eq_true rfl) dM_weeps_9 (kM_isString G (z, m) v2) (fun r9 => ?_)
    refine xR_ifeq 12 27 dM_weeps_12 (by decide) ?_ ?_
    · refine xR_aln 27 0 dM_weeps_27 rfl rfl ?_
      refine xR_bp 28 (-2 : Int32) dM_weeps_28 (by decide) ?_
      refine xR_callVim 30 cv_M_bad ml_RX9_66 ⟨Nat.le_of_ble_eq_true rfl, Nat.le_of_ble_eq_true rfl⟩ xcf7 rfl 85 (by decide) rfl [.int (-2 : Int32)] rfl rfl (Nat.le_of_ble_eq_true rfl) dM_weeps_30 (kM_bad G z m (-2 : Int32)) (fun r30 => ?_)
      exact xR_iret 33 rfl rfl dM_weeps_33
    · refine xR_iln 15 3 dM_weeps_15 rfl rfl ?_
      refine xR_i2l 16 dM_weeps_16 ?_
      refine xR_lc 17 (0 : Int64) dM_weeps_17 (by decide) ?_
      refine xR_ldc2 18 cl_RX9_256 dM_weeps_18 ?_
      refine xR_callSi 21 cs_M_in ml_RX9_40 ⟨Nat.le_of_ble_eq_true rfl, Nat.le_of_ble_eq_true rfl⟩ [.long ((v3).toInt64), .long (0 : Int64), .long (10 : Int64)] rfl rfl (Nat.le_of_ble_eq_true rfl) dM_weeps_21 (kM_in G (z, m) ((v3).toInt64) (0 : Int64) (10 : Int64)) (fun r21 => ?_)
      refine xR_ifne 24 34 dM_weeps_24 (by decide) ?_ ?_
      · refine xR_lc 34 (0 : Int64) dM_weeps_34 (by decide) ?_
        refine xR_ls 35 ([(4, .long (0 : Int64)), (0, .ref (xa G 85)), (1, .int v1), (2, .int v2), (3, .int v3)]) dM_weeps_35 (by decide) rfl ?_
        refine xR_lc 37 (1 : Int64) dM_weeps_37 (by decide) ?_
        refine xR_ls 38 ([(6, .long (1 : Int64)), (4, .long (0 : Int64)), (0, .ref (xa G 85)), (1, .int v1), (2, .int v2), (3, .int v3)]) dM_weeps_38 (by decide) rfl ?_
        refine xR_ic 40 (0 : Int32) dM_weeps_40 (by decide) ?_
        refine xR_is 41 ([(8, .int (0 : Int32)), (6, .long (1 : Int64)), (4, .long (0 : Int64)), (0, .ref (xa G 85)), (1, .int v1), (2, .int v2), (3, .int v3)]) dM_weeps_41 (by decide) rfl ?_
        exact xR_sub [3, 4, 5, 6, 2, 1, 0] rfl (kM_weeps_l43 G z xfu v1 v2 v3 (0 : Int64) (1 : Int64) (0 : Int32) m)
      · refine xR_aln 27 0 dM_weeps_27 rfl rfl ?_
        refine xR_bp 28 (-2 : Int32) dM_weeps_28 (by decide) ?_
        refine xR_callVim 30 cv_M_bad ml_RX9_66 ⟨Nat.le_of_ble_eq_true rfl, Nat.le_of_ble_eq_true rfl⟩ xcf7 rfl 85 (by decide) rfl [.int (-2 : Int32)] rfl rfl (Nat.le_of_ble_eq_true rfl) dM_weeps_30 (kM_bad G z m (-2 : Int32)) (fun r30 => ?_)
        exact xR_iret 33 rfl rfl dM_weeps_33
theorem dM_generations_0 : decode (xb yyM_generations) 0 = .ok (.iload_n 1, 1) := by decide +kernel
theorem dM_generations_1 : decode (xb yyM_generations) 1 = .ok (.i2l, 1) := by decide +kernel
theorem dM_generations_2 : decode (xb yyM_generations) 2 = .ok (.lconst 0, 1) := by decide +kernel
theorem dM_generations_3 : decode (xb yyM_generations) 3 = .ok (.ldc2_w 258, 3) := by decide +kernel
theorem dM_generations_6 : decode (xb yyM_generations) 6 = .ok (.invokestatic 40, 3) := by decide +kernel
theorem dM_generations_9 : decode (xb yyM_generations) 9 = .ok (.ifCond .eq 15, 3) := by decide +kernel
theorem dM_generations_12 : decode (xb yyM_generations) 12 = .ok (.iload_n 2, 1) := by decide +kernel
theorem dM_generations_13 : decode (xb yyM_generations) 13 = .ok (.i2l, 1) := by decide +kernel
theorem dM_generations_14 : decode (xb yyM_generations) 14 = .ok (.lconst 0, 1) := by decide +kernel
theorem dM_generations_15 : decode (xb yyM_generations) 15 = .ok (.ldc2_w 169, 3) := by decide +kernel
theorem dM_generations_18 : decode (xb yyM_generations) 18 = .ok (.invokestatic 40, 3) := by decide +kernel
theorem dM_generations_21 : decode (xb yyM_generations) 21 = .ok (.ifCond .ne 10, 3) := by decide +kernel
theorem dM_generations_24 : decode (xb yyM_generations) 24 = .ok (.aload_n 0, 1) := by decide +kernel
theorem dM_generations_25 : decode (xb yyM_generations) 25 = .ok (.bipush (-2), 2) := by decide +kernel
theorem dM_generations_27 : decode (xb yyM_generations) 27 = .ok (.invokevirtual 66, 3) := by decide +kernel
theorem dM_generations_30 : decode (xb yyM_generations) 30 = .ok (.ireturn, 1) := by decide +kernel
theorem dM_generations_31 : decode (xb yyM_generations) 31 = .ok (.aload_n 0, 1) := by decide +kernel
theorem dM_generations_32 : decode (xb yyM_generations) 32 = .ok (.invokevirtual 212, 3) := by decide +kernel
theorem dM_generations_35 : decode (xb yyM_generations) 35 = .ok (.iload_n 1, 1) := by decide +kernel
theorem dM_generations_36 : decode (xb yyM_generations) 36 = .ok (.i2l, 1) := by decide +kernel
theorem dM_generations_37 : decode (xb yyM_generations) 37 = .ok (.lstore_n 3, 1) := by decide +kernel
theorem dM_generations_38 : decode (xb yyM_generations) 38 = .ok (.iconst 0, 1) := by decide +kernel
theorem dM_generations_39 : decode (xb yyM_generations) 39 = .ok (.istore 5, 2) := by decide +kernel
theorem dM_generations_41 : decode (xb yyM_generations) 41 = .ok (.iconst 0, 1) := by decide +kernel
theorem dM_generations_42 : decode (xb yyM_generations) 42 = .ok (.istore 6, 2) := by decide +kernel
theorem dM_generations_44 : decode (xb yyM_generations) 44 = .ok (.iload 6, 2) := by decide +kernel
theorem dM_generations_46 : decode (xb yyM_generations) 46 = .ok (.iload_n 2, 1) := by decide +kernel
theorem dM_generations_47 : decode (xb yyM_generations) 47 = .ok (.if_icmp .ge 85, 3) := by decide +kernel
theorem dM_generations_50 : decode (xb yyM_generations) 50 = .ok (.lload_n 3, 1) := by decide +kernel
theorem dM_generations_51 : decode (xb yyM_generations) 51 = .ok (.ldc2_w 260, 3) := by decide +kernel
theorem dM_generations_54 : decode (xb yyM_generations) 54 = .ok (.lmul, 1) := by decide +kernel
theorem dM_generations_55 : decode (xb yyM_generations) 55 = .ok (.ldc2_w 262, 3) := by decide +kernel
theorem dM_generations_58 : decode (xb yyM_generations) 58 = .ok (.ladd, 1) := by decide +kernel
theorem dM_generations_59 : decode (xb yyM_generations) 59 = .ok (.ldc2_w 264, 3) := by decide +kernel
theorem dM_generations_62 : decode (xb yyM_generations) 62 = .ok (.lrem, 1) := by decide +kernel
theorem dM_generations_63 : decode (xb yyM_generations) 63 = .ok (.lstore_n 3, 1) := by decide +kernel
theorem dM_generations_64 : decode (xb yyM_generations) 64 = .ok (.lload_n 3, 1) := by decide +kernel
theorem dM_generations_65 : decode (xb yyM_generations) 65 = .ok (.ldc2_w 266, 3) := by decide +kernel
theorem dM_generations_68 : decode (xb yyM_generations) 68 = .ok (.ldiv, 1) := by decide +kernel
theorem dM_generations_69 : decode (xb yyM_generations) 69 = .ok (.ldc2_w 64, 3) := by decide +kernel
theorem dM_generations_72 : decode (xb yyM_generations) 72 = .ok (.lrem, 1) := by decide +kernel
theorem dM_generations_73 : decode (xb yyM_generations) 73 = .ok (.l2i, 1) := by decide +kernel
theorem dM_generations_74 : decode (xb yyM_generations) 74 = .ok (.istore 7, 2) := by decide +kernel
theorem dM_generations_76 : decode (xb yyM_generations) 76 = .ok (.lload_n 3, 1) := by decide +kernel
theorem dM_generations_77 : decode (xb yyM_generations) 77 = .ok (.ldc2_w 268, 3) := by decide +kernel
theorem dM_generations_80 : decode (xb yyM_generations) 80 = .ok (.ldiv, 1) := by decide +kernel
theorem dM_generations_81 : decode (xb yyM_generations) 81 = .ok (.ldc2_w 64, 3) := by decide +kernel
theorem dM_generations_84 : decode (xb yyM_generations) 84 = .ok (.lrem, 1) := by decide +kernel
theorem dM_generations_85 : decode (xb yyM_generations) 85 = .ok (.l2i, 1) := by decide +kernel
theorem dM_generations_86 : decode (xb yyM_generations) 86 = .ok (.istore 8, 2) := by decide +kernel
theorem dM_generations_88 : decode (xb yyM_generations) 88 = .ok (.iload 5, 2) := by decide +kernel
theorem dM_generations_90 : decode (xb yyM_generations) 90 = .ok (.iload 7, 2) := by decide +kernel
theorem dM_generations_92 : decode (xb yyM_generations) 92 = .ok (.aload_n 0, 1) := by decide +kernel
theorem dM_generations_93 : decode (xb yyM_generations) 93 = .ok (.getfield 7, 3) := by decide +kernel
theorem dM_generations_96 : decode (xb yyM_generations) 96 = .ok (.iconst 1, 1) := by decide +kernel
theorem dM_generations_97 : decode (xb yyM_generations) 97 = .ok (.iaload, 1) := by decide +kernel
theorem dM_generations_98 : decode (xb yyM_generations) 98 = .ok (.if_icmp .ge 17, 3) := by decide +kernel
theorem dM_generations_101 : decode (xb yyM_generations) 101 = .ok (.aload_n 0, 1) := by decide +kernel
theorem dM_generations_102 : decode (xb yyM_generations) 102 = .ok (.sipush 1704, 3) := by decide +kernel
theorem dM_generations_105 : decode (xb yyM_generations) 105 = .ok (.iload 7, 2) := by decide +kernel
theorem dM_generations_107 : decode (xb yyM_generations) 107 = .ok (.iload 8, 2) := by decide +kernel
theorem dM_generations_109 : decode (xb yyM_generations) 109 = .ok (.invokevirtual 209, 3) := by decide +kernel
theorem dM_generations_112 : decode (xb yyM_generations) 112 = .ok (.goto 4, 3) := by decide +kernel
theorem dM_generations_115 : decode (xb yyM_generations) 115 = .ok (.iconst 0, 1) := by decide +kernel
theorem dM_generations_116 : decode (xb yyM_generations) 116 = .ok (.iadd, 1) := by decide +kernel
theorem dM_generations_117 : decode (xb yyM_generations) 117 = .ok (.istore 5, 2) := by decide +kernel
theorem dM_generations_119 : decode (xb yyM_generations) 119 = .ok (.aload_n 0, 1) := by decide +kernel
theorem dM_generations_120 : decode (xb yyM_generations) 120 = .ok (.sipush 1704, 3) := by decide +kernel
theorem dM_generations_123 : decode (xb yyM_generations) 123 = .ok (.invokevirtual 130, 3) := by decide +kernel
theorem dM_generations_126 : decode (xb yyM_generations) 126 = .ok (.iinc 6 1, 3) := by decide +kernel
theorem dM_generations_129 : decode (xb yyM_generations) 129 = .ok (.goto (-85), 3) := by decide +kernel
theorem dM_generations_132 : decode (xb yyM_generations) 132 = .ok (.iload 5, 2) := by decide +kernel
theorem dM_generations_134 : decode (xb yyM_generations) 134 = .ok (.ireturn, 1) := by decide +kernel
def fM_generations_b116 (k44 : Int32 → Int64 → Int32 → Int32 → xM → Option (Int32 × xM)) (v2 : Int32) (v3 : Int64) (v6 : Int32) (s0 : Int32) (s1 : Int32) (m : xM) : Option (Int32 × xM) := (fM_passes (1704 : Int32) m).bind fun r123 => k44 v2 v3 (s1 + s0) (v6 + 1) r123
def fM_generations_l44  : Nat → Int32 → Int64 → Int32 → Int32 → xM → Option (Int32 × xM)
  | 0, _, _, _, _, _ => none
  | n + 1, v2, v3, v5, v6, m => (if v2 ≤ v6 then some (v5, m) else xck 1752 (1 : Int32) ((if (m.1 0 (1 : Int32).toNatClampNeg) ≤ (((((((v3 * (1103515245 : Int64)) + (12345 : Int64)) - ((v3 * (1103515245 : Int64)) + (12345 : Int64)) / (2147483648 : Int64) * (2147483648 : Int64)) / (65536 : Int64)) - ((((v3 * (1103515245 : Int64)) + (12345 : Int64)) - ((v3 * (1103515245 : Int64)) + (12345 : Int64)) / (2147483648 : Int64) * (2147483648 : Int64)) / (65536 : Int64)) / (4 : Int64) * (4 : Int64))).toInt32) then fM_generations_b116 (fM_generations_l44 n) v2 (((v3 * (1103515245 : Int64)) + (12345 : Int64)) - ((v3 * (1103515245 : Int64)) + (12345 : Int64)) / (2147483648 : Int64) * (2147483648 : Int64)) v6 (0 : Int32) v5 m else (fM_playsIn m (1704 : Int32) (((((((v3 * (1103515245 : Int64)) + (12345 : Int64)) - ((v3 * (1103515245 : Int64)) + (12345 : Int64)) / (2147483648 : Int64) * (2147483648 : Int64)) / (65536 : Int64)) - ((((v3 * (1103515245 : Int64)) + (12345 : Int64)) - ((v3 * (1103515245 : Int64)) + (12345 : Int64)) / (2147483648 : Int64) * (2147483648 : Int64)) / (65536 : Int64)) / (4 : Int64) * (4 : Int64))).toInt32) (((((((v3 * (1103515245 : Int64)) + (12345 : Int64)) - ((v3 * (1103515245 : Int64)) + (12345 : Int64)) / (2147483648 : Int64) * (2147483648 : Int64)) / (1048576 : Int64)) - ((((v3 * (1103515245 : Int64)) + (12345 : Int64)) - ((v3 * (1103515245 : Int64)) + (12345 : Int64)) / (2147483648 : Int64) * (2147483648 : Int64)) / (1048576 : Int64)) / (4 : Int64) * (4 : Int64))).toInt32)).bind fun r109 => fM_generations_b116 (fM_generations_l44 n) v2 (((v3 * (1103515245 : Int64)) + (12345 : Int64)) - ((v3 * (1103515245 : Int64)) + (12345 : Int64)) / (2147483648 : Int64) * (2147483648 : Int64)) v6 r109 v5 m)))
def fM_generations  (v1 : Int32) (v2 : Int32) (m : xM) : Option (Int32 × xM) := (fM_in ((v1).toInt64) (0 : Int64) (999999 : Int64)).bind fun r6 => (if r6 = 0 then (fM_bad (-2 : Int32) m).bind fun r27 => some (r27.1, r27.2) else (fM_in ((v2).toInt64) (0 : Int64) (60 : Int64)).bind fun r18 => (if r18 = 0 then (fM_bad (-2 : Int32) m).bind fun r27 => some (r27.1, r27.2) else (fM_tries m).bind fun r32 => fM_generations_l44 xfu v2 ((v1).toInt64) (0 : Int32) (0 : Int32) r32))
set_option maxRecDepth 100000 in
set_option maxHeartbeats 4000000 in
theorem kM_generations_b116 (G : xG)   (z : xM)  (k44 : Int32 → Int64 → Int32 → Int32 → xM → Option (Int32 × xM)) (hk44 : ∀ (v2 : Int32) (v3 : Int64) (v5 : Int32) (v6 : Int32) (m : xM), xR G yyM_generations (emim z) 44 [(0, .ref (xa G 85)), (2, .int v2), (3, .long v3), (5, .int v5), (6, .int v6)] [] (z, m) (k44 v2 v3 v5 v6 m)) (v2 : Int32) (v3 : Int64) (v6 : Int32) (s0 : Int32) (s1 : Int32) (m : xM) : xR G yyM_generations (emim z) 116 [(0, .ref (xa G 85)), (2, .int v2), (3, .long v3), (6, .int v6)] [.int s0, .int s1] (z, m) (fM_generations_b116 k44 v2 v3 v6 s0 s1 m) := by
  unfold fM_generations_b116
  refine xR_iadd 116 dM_generations_116 ?_
  refine xR_is 117 ([(5, .int (s1 + s0)), (0, .ref (xa G 85)), (2, .int v2), (3, .long v3), (6, .int v6)]) dM_generations_117 (by decide) rfl ?_
  refine xR_aln 119 1 dM_generations_119 rfl rfl ?_
  refine xR_sp 120 (1704 : Int32) dM_generations_120 (by decide) ?_
  refine xR_callVvm 123 cv_M_passes ml_RX9_130 ⟨Nat.le_of_ble_eq_true rfl, Nat.le_of_ble_eq_true rfl⟩ xcf7 rfl 85 (by decide) rfl [.int (1704 : Int32)] rfl rfl (Nat.le_of_ble_eq_true rfl) dM_generations_123 (kM_passes G z m (1704 : Int32)) (fun r123 => ?_)
  refine xR_iinc 126 4 (v6 + 1) ([(6, .int (v6 + 1)), (5, .int (s1 + s0)), (0, .ref (xa G 85)), (2, .int v2), (3, .long v3)]) dM_generations_126 rfl rfl (by decide) rfl ?_
  refine xR_goto 129 44 dM_generations_129 (by decide) ?_
  exact xR_sub [2, 3, 4, 1, 0] rfl (hk44 v2 v3 (s1 + s0) (v6 + 1) r123)
set_option maxRecDepth 100000 in
set_option maxHeartbeats 4000000 in
theorem kM_generations_l44 (G : xG)   (z : xM)    : ∀ (n : Nat) (v2 : Int32) (v3 : Int64) (v5 : Int32) (v6 : Int32) (m : xM), xR G yyM_generations (emim z) 44 [(0, .ref (xa G 85)), (2, .int v2), (3, .long v3), (5, .int v5), (6, .int v6)] [] (z, m) (fM_generations_l44  n v2 v3 v5 v6 m) := by
  intro n
  induction n with
  | zero =>
    intro v2 v3 v5 v6 m
    rw [fM_generations_l44]
    exact xR_none
  | succ n ih =>
    intro v2 v3 v5 v6 m
    rw [fM_generations_l44]
    refine xR_il 44 4 dM_generations_44 rfl ?_
    refine xR_iln 46 1 dM_generations_46 rfl rfl ?_
    refine xR_icge 47 132 dM_generations_47 (by decide) ?_ ?_
    · refine xR_il 132 3 dM_generations_132 rfl ?_
      exact xR_iret 134 rfl rfl dM_generations_134
    · refine xR_lln 50 2 dM_generations_50 rfl rfl ?_
      refine xR_ldc2 51 cl_RX9_260 dM_generations_51 ?_
      refine xR_lmul 54 dM_generations_54 ?_
      refine xR_ldc2 55 cl_RX9_262 dM_generations_55 ?_
      refine xR_ladd 58 dM_generations_58 ?_
      refine xR_ldc2 59 cl_RX9_264 dM_generations_59 ?_
      refine xR_lrem 62 dM_generations_62 (by decide) ?_
      refine xR_lsn 63 ([(3, .long (((v3 * (1103515245 : Int64)) + (12345 : Int64)) - ((v3 * (1103515245 : Int64)) + (12345 : Int64)) / (2147483648 : Int64) * (2147483648 : Int64))), (0, .ref (xa G 85)), (2, .int v2), (5, .int v5), (6, .int v6)]) dM_generations_63 rfl (by decide) rfl ?_
      refine xR_lln 64 0 dM_generations_64 rfl rfl ?_
      refine xR_ldc2 65 cl_RX9_266 dM_generations_65 ?_
      refine xR_ldiv 68 dM_generations_68 (by decide) ?_
      refine xR_ldc2 69 cl_RX9_64 dM_generations_69 ?_
      refine xR_lrem 72 dM_generations_72 (by decide) ?_
      refine xR_l2i 73 dM_generations_73 ?_
      refine xR_is 74 ([(7, .int (((((((v3 * (1103515245 : Int64)) + (12345 : Int64)) - ((v3 * (1103515245 : Int64)) + (12345 : Int64)) / (2147483648 : Int64) * (2147483648 : Int64)) / (65536 : Int64)) - ((((v3 * (1103515245 : Int64)) + (12345 : Int64)) - ((v3 * (1103515245 : Int64)) + (12345 : Int64)) / (2147483648 : Int64) * (2147483648 : Int64)) / (65536 : Int64)) / (4 : Int64) * (4 : Int64))).toInt32)), (3, .long (((v3 * (1103515245 : Int64)) + (12345 : Int64)) - ((v3 * (1103515245 : Int64)) + (12345 : Int64)) / (2147483648 : Int64) * (2147483648 : Int64))), (0, .ref (xa G 85)), (2, .int v2), (5, .int v5), (6, .int v6)]) dM_generations_74 (by decide) rfl ?_
      refine xR_lln 76 1 dM_generations_76 rfl rfl ?_
      refine xR_ldc2 77 cl_RX9_268 dM_generations_77 ?_
      refine xR_ldiv 80 dM_generations_80 (by decide) ?_
      refine xR_ldc2 81 cl_RX9_64 dM_generations_81 ?_
      refine xR_lrem 84 dM_generations_84 (by decide) ?_
      refine xR_l2i 85 dM_generations_85 ?_
      refine xR_is 86 ([(8, .int (((((((v3 * (1103515245 : Int64)) + (12345 : Int64)) - ((v3 * (1103515245 : Int64)) + (12345 : Int64)) / (2147483648 : Int64) * (2147483648 : Int64)) / (1048576 : Int64)) - ((((v3 * (1103515245 : Int64)) + (12345 : Int64)) - ((v3 * (1103515245 : Int64)) + (12345 : Int64)) / (2147483648 : Int64) * (2147483648 : Int64)) / (1048576 : Int64)) / (4 : Int64) * (4 : Int64))).toInt32)), (7, .int (((((((v3 * (1103515245 : Int64)) + (12345 : Int64)) - ((v3 * (1103515245 : Int64)) + (12345 : Int64)) / (2147483648 : Int64) * (2147483648 : Int64)) / (65536 : Int64)) - ((((v3 * (1103515245 : Int64)) + (12345 : Int64)) - ((v3 * (1103515245 : Int64)) + (12345 : Int64)) / (2147483648 : Int64) * (2147483648 : Int64)) / (65536 : Int64)) / (4 : Int64) * (4 : Int64))).toInt32)), (3, .long (((v3 * (1103515245 : Int64)) + (12345 : Int64)) - ((v3 * (1103515245 : Int64)) + (12345 : Int64)) / (2147483648 : Int64) * (2147483648 : Int64))), (0, .ref (xa G 85)), (2, .int v2), (5, .int v5), (6, .int v6)]) dM_generations_86 (by decide) rfl ?_
      refine xR_il 88 5 dM_generations_88 rfl ?_
      refine xR_il 90 1 dM_generations_90 rfl ?_
      refine xR_aln 92 3 dM_generations_92 rfl rfl ?_
      refine xR_getf 93 xcf7 0 85 (by decide) (by decide) rfl (v := .ref (xa G 86)) rfl fl_RX9_7 dM_generations_93 ?_
      refine xR_ic 96 (1 : Int32) dM_generations_96 (by decide) ?_
      refine xR_iald 97 86 (by decide) rfl dM_generations_97 ?_
      refine xR_icge 98 115 dM_generations_98 (by decide) ?_ ?_
      · refine xR_ic 115 (0 : Int32) dM_generations_115 (by decide) ?_
        exact xR_sub [3, 4, 2, 6] rfl (kM_generations_b116 G z (fM_generations_l44 n) ih v2 (((v3 * (1103515245 : Int64)) + (12345 : Int64)) - ((v3 * (1103515245 : Int64)) + (12345 : Int64)) / (2147483648 : Int64) * (2147483648 : Int64)) v6 (0 : Int32) v5 m)
      · refine xR_aln 101 3 dM_generations_101 rfl rfl ?_
        refine xR_sp 102 (1704 : Int32) dM_generations_102 (by decide) ?_
        refine xR_il 105 1 dM_generations_105 rfl ?_
        refine xR_il 107 0 dM_generations_107 rfl ?_
        refine xR_callVi 109 cv_M_playsIn ml_RX9_209 ⟨Nat.le_of_ble_eq_true rfl, Nat.le_of_ble_eq_true rfl⟩ xcf7 rfl 85 (by decide) rfl [.int (1704 : Int32), .int (((((((v3 * (1103515245 : Int64)) + (12345 : Int64)) - ((v3 * (1103515245 : Int64)) + (12345 : Int64)) / (2147483648 : Int64) * (2147483648 : Int64)) / (65536 : Int64)) - ((((v3 * (1103515245 : Int64)) + (12345 : Int64)) - ((v3 * (1103515245 : Int64)) + (12345 : Int64)) / (2147483648 : Int64) * (2147483648 : Int64)) / (65536 : Int64)) / (4 : Int64) * (4 : Int64))).toInt32), .int (((((((v3 * (1103515245 : Int64)) + (12345 : Int64)) - ((v3 * (1103515245 : Int64)) + (12345 : Int64)) / (2147483648 : Int64) * (2147483648 : Int64)) / (1048576 : Int64)) - ((((v3 * (1103515245 : Int64)) + (12345 : Int64)) - ((v3 * (1103515245 : Int64)) + (12345 : Int64)) / (2147483648 : Int64) * (2147483648 : Int64)) / (1048576 : Int64)) / (4 : Int64) * (4 : Int64))).toInt32)] rfl rfl (Nat.le_of_ble_eq_true rfl) dM_generations_109 (kM_playsIn G z m (1704 : Int32) (((((((v3 * (1103515245 : Int64)) + (12345 : Int64)) - ((v3 * (1103515245 : Int64)) + (12345 : Int64)) / (2147483648 : Int64) * (2147483648 : Int64)) / (65536 : Int64)) - ((((v3 * (1103515245 : Int64)) + (12345 : Int64)) - ((v3 * (1103515245 : Int64)) + (12345 : Int64)) / (2147483648 : Int64) * (2147483648 : Int64)) / (65536 : Int64)) / (4 : Int64) * (4 : Int64))).toInt32) (((((((v3 * (1103515245 : Int64)) + (12345 : Int64)) - ((v3 * (1103515245 : Int64)) + (12345 : Int64)) / (2147483648 : Int64) * (2147483648 : Int64)) / (1048576 : Int64)) - ((((v3 * (1103515245 : Int64)) + (12345 : Int64)) - ((v3 * (1103515245 : Int64)) + (12345 : Int64)) / (2147483648 : Int64) * (2147483648 : Int64)) / (1048576 : Int64)) / (4 : Int64) * (4 : Int64))).toInt32)) (fun r109 => ?_)
        refine xR_goto 112 116 dM_generations_112 (by decide) ?_
        exact xR_sub [3, 4, 2, 6] rfl (kM_generations_b116 G z (fM_generations_l44 n) ih v2 (((v3 * (1103515245 : Int64)) + (12345 : Int64)) - ((v3 * (1103515245 : Int64)) + (12345 : Int64)) / (2147483648 : Int64) * (2147483648 : Int64)) v6 r109 v5 m)
set_option maxRecDepth 100000 in
set_option maxHeartbeats 4000000 in
theorem kM_generations (G : xG)   (z : xM) (m : xM) (v1 : Int32) (v2 : Int32) : ∀ a, fM_generations  v1 v2 m = some a → xCt G yyM_generations [.ref (xa G 85), .int v1, .int v2] (z, m) (some (.int a.1)) (z, a.2) := by
  refine xR_ct (em := (emim z)) rfl (Nat.le_of_ble_eq_true rfl) ?_
  show xR G yyM_generations _ 0 [(0, .ref (xa G 85)), (1, .int v1), (2, .int v2)] [] _ _
  unfold fM_generations
  refine xR_iln 0 1 dM_generations_0 rfl rfl ?_
  refine xR_i2l 1 dM_generations_1 ?_
  refine xR_lc 2 (0 : Int64) dM_generations_2 (by decide) ?_
  refine xR_ldc2 3 cl_RX9_258 dM_generations_3 ?_
  refine xR_callSi 6 cs_M_in ml_RX9_40 ⟨Nat.le_of_ble_eq_true rfl, Nat.le_of_ble_eq_true rfl⟩ [.long ((v1).toInt64), .long (0 : Int64), .long (999999 : Int64)] rfl rfl (Nat.le_of_ble_eq_true rfl) dM_generations_6 (kM_in G (z, m) ((v1).toInt64) (0 : Int64) (999999 : Int64)) (fun r6 => ?_)
  refine xR_ifeq 9 24 dM_generations_9 (by decide) ?_ ?_
  · refine xR_aln 24 0 dM_generations_24 rfl rfl ?_
    refine xR_bp 25 (-2 : Int32) dM_generations_25 (by decide) ?_
    refine xR_callVim 27 cv_M_bad ml_RX9_66 ⟨Nat.le_of_ble_eq_true rfl, Nat.le_of_ble_eq_true rfl⟩ xcf7 rfl 85 (by decide) rfl [.int (-2 : Int32)] rfl rfl (Nat.le_of_ble_eq_true rfl) dM_generations_27 (kM_bad G z m (-2 : Int32)) (fun r27 => ?_)
    exact xR_iret 30 rfl rfl dM_generations_30
  · refine xR_iln 12 2 dM_generations_12 rfl rfl ?_
    refine xR_i2l 13 dM_generations_13 ?_
    refine xR_lc 14 (0 : Int64) dM_generations_14 (by decide) ?_
    refine xR_ldc2 15 cl_RX9_169 dM_generations_15 ?_
    refine xR_callSi 18 cs_M_in ml_RX9_40 ⟨Nat.le_of_ble_eq_true rfl, Nat.le_of_ble_eq_true rfl⟩ [.long ((v2).toInt64), .long (0 : Int64), .long (60 : Int64)] rfl rfl (Nat.le_of_ble_eq_true rfl) dM_generations_18 (kM_in G (z, m) ((v2).toInt64) (0 : Int64) (60 : Int64)) (fun r18 => ?_)
    refine xR_ifne 21 31 dM_generations_21 (by decide) ?_ ?_
    · refine xR_aln 31 0 dM_generations_31 rfl rfl ?_
      refine xR_callVvm 32 cv_M_tries ml_RX9_212 ⟨Nat.le_of_ble_eq_true rfl, Nat.le_of_ble_eq_true rfl⟩ xcf7 rfl 85 (by decide) rfl [] rfl rfl (Nat.le_of_ble_eq_true rfl) dM_generations_32 (kM_tries G z m) (fun r32 => ?_)
      refine xR_iln 35 1 dM_generations_35 rfl rfl ?_
      refine xR_i2l 36 dM_generations_36 ?_
      refine xR_lsn 37 ([(3, .long ((v1).toInt64)), (0, .ref (xa G 85)), (1, .int v1), (2, .int v2)]) dM_generations_37 rfl (by decide) rfl ?_
      refine xR_ic 38 (0 : Int32) dM_generations_38 (by decide) ?_
      refine xR_is 39 ([(5, .int (0 : Int32)), (3, .long ((v1).toInt64)), (0, .ref (xa G 85)), (1, .int v1), (2, .int v2)]) dM_generations_39 (by decide) rfl ?_
      refine xR_ic 41 (0 : Int32) dM_generations_41 (by decide) ?_
      refine xR_is 42 ([(6, .int (0 : Int32)), (5, .int (0 : Int32)), (3, .long ((v1).toInt64)), (0, .ref (xa G 85)), (1, .int v1), (2, .int v2)]) dM_generations_42 (by decide) rfl ?_
      exact xR_sub [3, 5, 2, 1, 0] rfl (kM_generations_l44 G z xfu v2 ((v1).toInt64) (0 : Int32) (0 : Int32) r32)
    · refine xR_aln 24 0 dM_generations_24 rfl rfl ?_
      refine xR_bp 25 (-2 : Int32) dM_generations_25 (by decide) ?_
      refine xR_callVim 27 cv_M_bad ml_RX9_66 ⟨Nat.le_of_ble_eq_true rfl, Nat.le_of_ble_eq_true rfl⟩ xcf7 rfl 85 (by decide) rfl [.int (-2 : Int32)] rfl rfl (Nat.le_of_ble_eq_true rfl) dM_generations_27 (kM_bad G z m (-2 : Int32)) (fun r27 => ?_)
      exact xR_iret 30 rfl rfl dM_generations_30
theorem dM_part_0 : decode (xb yyM_part) 0 = .ok (.iload_n 1, 1) := by decide +kernel
theorem dM_part_1 : decode (xb yyM_part) 1 = .ok (.ifCond .ne 10, 3) := by decide +kernel
theorem dM_part_4 : decode (xb yyM_part) 4 = .ok (.aload_n 0, 1) := by decide +kernel
theorem dM_part_5 : decode (xb yyM_part) 5 = .ok (.getfield 20, 3) := by decide +kernel
theorem dM_part_8 : decode (xb yyM_part) 8 = .ok (.goto 22, 3) := by decide +kernel
theorem dM_part_11 : decode (xb yyM_part) 11 = .ok (.iload_n 1, 1) := by decide +kernel
theorem dM_part_12 : decode (xb yyM_part) 12 = .ok (.iconst 1, 1) := by decide +kernel
theorem dM_part_13 : decode (xb yyM_part) 13 = .ok (.if_icmp .ne 10, 3) := by decide +kernel
theorem dM_part_16 : decode (xb yyM_part) 16 = .ok (.aload_n 0, 1) := by decide +kernel
theorem dM_part_17 : decode (xb yyM_part) 17 = .ok (.getfield 24, 3) := by decide +kernel
theorem dM_part_20 : decode (xb yyM_part) 20 = .ok (.goto 10, 3) := by decide +kernel
theorem dM_part_23 : decode (xb yyM_part) 23 = .ok (.aload_n 0, 1) := by decide +kernel
theorem dM_part_24 : decode (xb yyM_part) 24 = .ok (.bipush (-2), 2) := by decide +kernel
theorem dM_part_26 : decode (xb yyM_part) 26 = .ok (.invokevirtual 66, 3) := by decide +kernel
theorem dM_part_29 : decode (xb yyM_part) 29 = .ok (.i2l, 1) := by decide +kernel
theorem dM_part_30 : decode (xb yyM_part) 30 = .ok (.lreturn, 1) := by decide +kernel
def fM_part  (v1 : Int32) (m : xM) : Option (Int64 × xM) := (if v1 = 0 then some ((m.2 0), m) else (if v1 = (1 : Int32) then some ((m.2 1), m) else (fM_bad (-2 : Int32) m).bind fun r26 => some (((r26.1).toInt64), r26.2)))
set_option maxRecDepth 100000 in
set_option maxHeartbeats 4000000 in
theorem kM_part (G : xG)   (z : xM) (m : xM) (v1 : Int32) : ∀ a, fM_part  v1 m = some a → xCt G yyM_part [.ref (xa G 85), .int v1] (z, m) (some (.long a.1)) (z, a.2) := by
  refine xR_ct (em := (emlm z)) rfl (Nat.le_of_ble_eq_true rfl) ?_
  show xR G yyM_part _ 0 [(0, .ref (xa G 85)), (1, .int v1)] [] _ _
  unfold fM_part
  refine xR_iln 0 1 dM_part_0 rfl rfl ?_
  refine xR_ifne 1 11 dM_part_1 (by decide) ?_ ?_
  · refine xR_iln 11 1 dM_part_11 rfl rfl ?_
    refine xR_ic 12 (1 : Int32) dM_part_12 (by decide) ?_
    refine xR_icne 13 23 dM_part_13 (by decide) ?_ ?_
    · refine xR_aln 23 0 dM_part_23 rfl rfl ?_
      refine xR_bp 24 (-2 : Int32) dM_part_24 (by decide) ?_
      refine xR_callVim 26 cv_M_bad ml_RX9_66 ⟨Nat.le_of_ble_eq_true rfl, Nat.le_of_ble_eq_true rfl⟩ xcf7 rfl 85 (by decide) rfl [.int (-2 : Int32)] rfl rfl (Nat.le_of_ble_eq_true rfl) dM_part_26 (kM_bad G z m (-2 : Int32)) (fun r26 => ?_)
      refine xR_i2l 29 dM_part_29 ?_
      exact xR_lret 30 rfl rfl dM_part_30
    · refine xR_aln 16 0 dM_part_16 rfl rfl ?_
      refine xR_getf 17 xcf7 5 85 (by decide) (by decide) rfl (v := .long (m.2 1)) rfl fl_RX9_24 dM_part_17 ?_
      refine xR_goto 20 30 dM_part_20 (by decide) ?_
      exact xR_lret 30 rfl rfl dM_part_30
  · refine xR_aln 4 0 dM_part_4 rfl rfl ?_
    refine xR_getf 5 xcf7 4 85 (by decide) (by decide) rfl (v := .long (m.2 0)) rfl fl_RX9_20 dM_part_5 ?_
    refine xR_goto 8 30 dM_part_8 (by decide) ?_
    exact xR_lret 30 rfl rfl dM_part_30
theorem dM_image_0 : decode (xb yyM_image) 0 = .ok (.iload_n 1, 1) := by decide +kernel
theorem dM_image_1 : decode (xb yyM_image) 1 = .ok (.i2l, 1) := by decide +kernel
theorem dM_image_2 : decode (xb yyM_image) 2 = .ok (.lconst 0, 1) := by decide +kernel
theorem dM_image_3 : decode (xb yyM_image) 3 = .ok (.lconst 1, 1) := by decide +kernel
theorem dM_image_4 : decode (xb yyM_image) 4 = .ok (.invokestatic 40, 3) := by decide +kernel
theorem dM_image_7 : decode (xb yyM_image) 7 = .ok (.ifCond .ne 10, 3) := by decide +kernel
theorem dM_image_10 : decode (xb yyM_image) 10 = .ok (.aload_n 0, 1) := by decide +kernel
theorem dM_image_11 : decode (xb yyM_image) 11 = .ok (.bipush (-2), 2) := by decide +kernel
theorem dM_image_13 : decode (xb yyM_image) 13 = .ok (.invokevirtual 66, 3) := by decide +kernel
theorem dM_image_16 : decode (xb yyM_image) 16 = .ok (.ireturn, 1) := by decide +kernel
theorem dM_image_17 : decode (xb yyM_image) 17 = .ok (.aload_n 0, 1) := by decide +kernel
theorem dM_image_18 : decode (xb yyM_image) 18 = .ok (.iconst 0, 1) := by decide +kernel
theorem dM_image_19 : decode (xb yyM_image) 19 = .ok (.sipush 426, 3) := by decide +kernel
theorem dM_image_22 : decode (xb yyM_image) 22 = .ok (.sipush 426, 3) := by decide +kernel
theorem dM_image_25 : decode (xb yyM_image) 25 = .ok (.iload_n 1, 1) := by decide +kernel
theorem dM_image_26 : decode (xb yyM_image) 26 = .ok (.imul, 1) := by decide +kernel
theorem dM_image_27 : decode (xb yyM_image) 27 = .ok (.iadd, 1) := by decide +kernel
theorem dM_image_28 : decode (xb yyM_image) 28 = .ok (.invokevirtual 165, 3) := by decide +kernel
theorem dM_image_31 : decode (xb yyM_image) 31 = .ok (.aload_n 0, 1) := by decide +kernel
theorem dM_image_32 : decode (xb yyM_image) 32 = .ok (.getfield 13, 3) := by decide +kernel
theorem dM_image_35 : decode (xb yyM_image) 35 = .ok (.iload_n 1, 1) := by decide +kernel
theorem dM_image_36 : decode (xb yyM_image) 36 = .ok (.iconst 1, 1) := by decide +kernel
theorem dM_image_37 : decode (xb yyM_image) 37 = .ok (.bastore, 1) := by decide +kernel
theorem dM_image_38 : decode (xb yyM_image) 38 = .ok (.iconst 1, 1) := by decide +kernel
theorem dM_image_39 : decode (xb yyM_image) 39 = .ok (.ireturn, 1) := by decide +kernel
def fM_image  (v1 : Int32) (m : xM) : Option (Int32 × xM) := (fM_in ((v1).toInt64) (0 : Int64) (1 : Int64)).bind fun r4 => (if r4 = 0 then (fM_bad (-2 : Int32) m).bind fun r13 => some (r13.1, r13.2) else (fM_copy (0 : Int32) ((426 : Int32) + ((426 : Int32) * v1)) m).bind fun r28 => xck 2 v1 (some ((1 : Int32), (xset r28 1 v1.toNatClampNeg (vp_nar .boolean (1 : Int32))))))
set_option maxRecDepth 100000 in
set_option maxHeartbeats 4000000 in
theorem kM_image (G : xG)   (z : xM) (m : xM) (v1 : Int32) : ∀ a, fM_image  v1 m = some a → xCt G yyM_image [.ref (xa G 85), .int v1] (z, m) (some (.int a.1)) (z, a.2) := by
  refine xR_ct (em := (emim z)) rfl (Nat.le_of_ble_eq_true rfl) ?_
  show xR G yyM_image _ 0 [(0, .ref (xa G 85)), (1, .int v1)] [] _ _
  unfold fM_image
  refine xR_iln 0 1 dM_image_0 rfl rfl ?_
  refine xR_i2l 1 dM_image_1 ?_
  refine xR_lc 2 (0 : Int64) dM_image_2 (by decide) ?_
  refine xR_lc 3 (1 : Int64) dM_image_3 (by decide) ?_
  refine xR_callSi 4 cs_M_in ml_RX9_40 ⟨Nat.le_of_ble_eq_true rfl, Nat.le_of_ble_eq_true rfl⟩ [.long ((v1).toInt64), .long (0 : Int64), .long (1 : Int64)] rfl rfl (Nat.le_of_ble_eq_true rfl) dM_image_4 (kM_in G (z, m) ((v1).toInt64) (0 : Int64) (1 : Int64)) (fun r4 => ?_)
  refine xR_ifne 7 17 dM_image_7 (by decide) ?_ ?_
  · refine xR_aln 17 0 dM_image_17 rfl rfl ?_
    refine xR_ic 18 (0 : Int32) dM_image_18 (by decide) ?_
    refine xR_sp 19 (426 : Int32) dM_image_19 (by decide) ?_
    refine xR_sp 22 (426 : Int32) dM_image_22 (by decide) ?_
    refine xR_iln 25 1 dM_image_25 rfl rfl ?_
    refine xR_imul 26 dM_image_26 ?_
    refine xR_iadd 27 dM_image_27 ?_
    refine xR_callVvm 28 cv_M_copy ml_RX9_165 ⟨Nat.le_of_ble_eq_true rfl, Nat.le_of_ble_eq_true rfl⟩ xcf7 rfl 85 (by decide) rfl [.int (0 : Int32), .int ((426 : Int32) + ((426 : Int32) * v1))] rfl rfl (Nat.le_of_ble_eq_true rfl) dM_image_28 (kM_copy G z m (0 : Int32) ((426 : Int32) + ((426 : Int32) * v1))) (fun r28 => ?_)
    refine xR_aln 31 0 dM_image_31 rfl rfl ?_
    refine xR_getf 32 xcf7 1 85 (by decide) (by decide) rfl (v := .ref (xa G 87)) rfl fl_RX9_13 dM_image_32 ?_
    refine xR_iln 35 1 dM_image_35 rfl rfl ?_
    refine xR_ic 36 (1 : Int32) dM_image_36 (by decide) ?_
    refine xR_zast 37 87 (by decide) rfl (z, (xset r28 1 v1.toNatClampNeg (vp_nar .boolean (1 : Int32)))) xW_m1 dM_image_37 ?_
    refine xR_ic 38 (1 : Int32) dM_image_38 (by decide) ?_
    exact xR_iret 39 rfl rfl dM_image_39
  · refine xR_aln 10 0 dM_image_10 rfl rfl ?_
    refine xR_bp 11 (-2 : Int32) dM_image_11 (by decide) ?_
    refine xR_callVim 13 cv_M_bad ml_RX9_66 ⟨Nat.le_of_ble_eq_true rfl, Nat.le_of_ble_eq_true rfl⟩ xcf7 rfl 85 (by decide) rfl [.int (-2 : Int32)] rfl rfl (Nat.le_of_ble_eq_true rfl) dM_image_13 (kM_bad G z m (-2 : Int32)) (fun r13 => ?_)
    exact xR_iret 16 rfl rfl dM_image_16
theorem dM_from_0 : decode (xb yyM_from) 0 = .ok (.iload_n 1, 1) := by decide +kernel
theorem dM_from_1 : decode (xb yyM_from) 1 = .ok (.i2l, 1) := by decide +kernel
theorem dM_from_2 : decode (xb yyM_from) 2 = .ok (.lconst 0, 1) := by decide +kernel
theorem dM_from_3 : decode (xb yyM_from) 3 = .ok (.lconst 1, 1) := by decide +kernel
theorem dM_from_4 : decode (xb yyM_from) 4 = .ok (.invokestatic 40, 3) := by decide +kernel
theorem dM_from_7 : decode (xb yyM_from) 7 = .ok (.ifCond .ne 10, 3) := by decide +kernel
theorem dM_from_10 : decode (xb yyM_from) 10 = .ok (.aload_n 0, 1) := by decide +kernel
theorem dM_from_11 : decode (xb yyM_from) 11 = .ok (.bipush (-2), 2) := by decide +kernel
theorem dM_from_13 : decode (xb yyM_from) 13 = .ok (.invokevirtual 66, 3) := by decide +kernel
theorem dM_from_16 : decode (xb yyM_from) 16 = .ok (.ireturn, 1) := by decide +kernel
theorem dM_from_17 : decode (xb yyM_from) 17 = .ok (.aload_n 0, 1) := by decide +kernel
theorem dM_from_18 : decode (xb yyM_from) 18 = .ok (.getfield 13, 3) := by decide +kernel
theorem dM_from_21 : decode (xb yyM_from) 21 = .ok (.iload_n 1, 1) := by decide +kernel
theorem dM_from_22 : decode (xb yyM_from) 22 = .ok (.baload, 1) := by decide +kernel
theorem dM_from_23 : decode (xb yyM_from) 23 = .ok (.ifCond .ne 8, 3) := by decide +kernel
theorem dM_from_26 : decode (xb yyM_from) 26 = .ok (.aload_n 0, 1) := by decide +kernel
theorem dM_from_27 : decode (xb yyM_from) 27 = .ok (.invokevirtual 180, 3) := by decide +kernel
theorem dM_from_30 : decode (xb yyM_from) 30 = .ok (.ireturn, 1) := by decide +kernel
theorem dM_from_31 : decode (xb yyM_from) 31 = .ok (.aload_n 0, 1) := by decide +kernel
theorem dM_from_32 : decode (xb yyM_from) 32 = .ok (.sipush 426, 3) := by decide +kernel
theorem dM_from_35 : decode (xb yyM_from) 35 = .ok (.sipush 426, 3) := by decide +kernel
theorem dM_from_38 : decode (xb yyM_from) 38 = .ok (.iload_n 1, 1) := by decide +kernel
theorem dM_from_39 : decode (xb yyM_from) 39 = .ok (.imul, 1) := by decide +kernel
theorem dM_from_40 : decode (xb yyM_from) 40 = .ok (.iadd, 1) := by decide +kernel
theorem dM_from_41 : decode (xb yyM_from) 41 = .ok (.iconst 0, 1) := by decide +kernel
theorem dM_from_42 : decode (xb yyM_from) 42 = .ok (.invokevirtual 165, 3) := by decide +kernel
theorem dM_from_45 : decode (xb yyM_from) 45 = .ok (.iconst 1, 1) := by decide +kernel
theorem dM_from_46 : decode (xb yyM_from) 46 = .ok (.ireturn, 1) := by decide +kernel
def fM_from  (v1 : Int32) (m : xM) : Option (Int32 × xM) := (fM_in ((v1).toInt64) (0 : Int64) (1 : Int64)).bind fun r4 => (if r4 = 0 then (fM_bad (-2 : Int32) m).bind fun r13 => some (r13.1, r13.2) else xck 2 v1 ((if (m.1 1 v1.toNatClampNeg) = 0 then (fM_no m).bind fun r27 => some (r27.1, r27.2) else (fM_copy ((426 : Int32) + ((426 : Int32) * v1)) (0 : Int32) m).bind fun r42 => some ((1 : Int32), r42))))
set_option maxRecDepth 100000 in
set_option maxHeartbeats 4000000 in
theorem kM_from (G : xG)   (z : xM) (m : xM) (v1 : Int32) : ∀ a, fM_from  v1 m = some a → xCt G yyM_from [.ref (xa G 85), .int v1] (z, m) (some (.int a.1)) (z, a.2) := by
  refine xR_ct (em := (emim z)) rfl (Nat.le_of_ble_eq_true rfl) ?_
  show xR G yyM_from _ 0 [(0, .ref (xa G 85)), (1, .int v1)] [] _ _
  unfold fM_from
  refine xR_iln 0 1 dM_from_0 rfl rfl ?_
  refine xR_i2l 1 dM_from_1 ?_
  refine xR_lc 2 (0 : Int64) dM_from_2 (by decide) ?_
  refine xR_lc 3 (1 : Int64) dM_from_3 (by decide) ?_
  refine xR_callSi 4 cs_M_in ml_RX9_40 ⟨Nat.le_of_ble_eq_true rfl, Nat.le_of_ble_eq_true rfl⟩ [.long ((v1).toInt64), .long (0 : Int64), .long (1 : Int64)] rfl rfl (Nat.le_of_ble_eq_true rfl) dM_from_4 (kM_in G (z, m) ((v1).toInt64) (0 : Int64) (1 : Int64)) (fun r4 => ?_)
  refine xR_ifne 7 17 dM_from_7 (by decide) ?_ ?_
  · refine xR_aln 17 0 dM_from_17 rfl rfl ?_
    refine xR_getf 18 xcf7 1 85 (by decide) (by decide) rfl (v := .ref (xa G 87)) rfl fl_RX9_13 dM_from_18 ?_
    refine xR_iln 21 1 dM_from_21 rfl rfl ?_
    refine xR_zald 22 87 (by decide) rfl dM_from_22 ?_
    refine xR_ifne 23 31 dM_from_23 (by decide) ?_ ?_
    · refine xR_aln 31 0 dM_from_31 rfl rfl ?_
      refine xR_sp 32 (426 : Int32) dM_from_32 (by decide) ?_
      refine xR_sp 35 (426 : Int32) dM_from_35 (by decide) ?_
      refine xR_iln 38 1 dM_from_38 rfl rfl ?_
      refine xR_imul 39 dM_from_39 ?_
      refine xR_iadd 40 dM_from_40 ?_
      refine xR_ic 41 (0 : Int32) dM_from_41 (by decide) ?_
      refine xR_callVvm 42 cv_M_copy ml_RX9_165 ⟨Nat.le_of_ble_eq_true rfl, Nat.le_of_ble_eq_true rfl⟩ xcf7 rfl 85 (by decide) rfl [.int ((426 : Int32) + ((426 : Int32) * v1)), .int (0 : Int32)] rfl rfl (Nat.le_of_ble_eq_true rfl) dM_from_42 (kM_copy G z m ((426 : Int32) + ((426 : Int32) * v1)) (0 : Int32)) (fun r42 => ?_)
      refine xR_ic 45 (1 : Int32) dM_from_45 (by decide) ?_
      exact xR_iret 46 rfl rfl dM_from_46
    · refine xR_aln 26 0 dM_from_26 rfl rfl ?_
      refine xR_callVim 27 cv_M_no ml_RX9_180 ⟨Nat.le_of_ble_eq_true rfl, Nat.le_of_ble_eq_true rfl⟩ xcf7 rfl 85 (by decide) rfl [] rfl rfl (Nat.le_of_ble_eq_true rfl) dM_from_27 (kM_no G z m) (fun r27 => ?_)
      exact xR_iret 30 rfl rfl dM_from_30
  · refine xR_aln 10 0 dM_from_10 rfl rfl ?_
    refine xR_bp 11 (-2 : Int32) dM_from_11 (by decide) ?_
    refine xR_callVim 13 cv_M_bad ml_RX9_66 ⟨Nat.le_of_ble_eq_true rfl, Nat.le_of_ble_eq_true rfl⟩ xcf7 rfl 85 (by decide) rfl [.int (-2 : Int32)] rfl rfl (Nat.le_of_ble_eq_true rfl) dM_from_13 (kM_bad G z m (-2 : Int32)) (fun r13 => ?_)
    exact xR_iret 16 rfl rfl dM_from_16
theorem dM_status_0 : decode (xb yyM_status) 0 = .ok (.iload_n 1, 1) := by decide +kernel
theorem dM_status_1 : decode (xb yyM_status) 1 = .ok (.i2l, 1) := by decide +kernel
theorem dM_status_2 : decode (xb yyM_status) 2 = .ok (.lconst 0, 1) := by decide +kernel
theorem dM_status_3 : decode (xb yyM_status) 3 = .ok (.ldc2_w 121, 3) := by decide +kernel
theorem dM_status_6 : decode (xb yyM_status) 6 = .ok (.invokestatic 40, 3) := by decide +kernel
theorem dM_status_9 : decode (xb yyM_status) 9 = .ok (.ifCond .eq 12, 3) := by decide +kernel
theorem dM_status_12 : decode (xb yyM_status) 12 = .ok (.aload_n 0, 1) := by decide +kernel
theorem dM_status_13 : decode (xb yyM_status) 13 = .ok (.getfield 27, 3) := by decide +kernel
theorem dM_status_16 : decode (xb yyM_status) 16 = .ok (.iload_n 1, 1) := by decide +kernel
theorem dM_status_17 : decode (xb yyM_status) 17 = .ok (.iaload, 1) := by decide +kernel
theorem dM_status_18 : decode (xb yyM_status) 18 = .ok (.goto 8, 3) := by decide +kernel
theorem dM_status_21 : decode (xb yyM_status) 21 = .ok (.aload_n 0, 1) := by decide +kernel
theorem dM_status_22 : decode (xb yyM_status) 22 = .ok (.iconst (-1), 1) := by decide +kernel
theorem dM_status_23 : decode (xb yyM_status) 23 = .ok (.invokevirtual 66, 3) := by decide +kernel
theorem dM_status_26 : decode (xb yyM_status) 26 = .ok (.ireturn, 1) := by decide +kernel
def fM_status  (v1 : Int32) (m : xM) : Option (Int32 × xM) := (fM_in ((v1).toInt64) (0 : Int64) (2 : Int64)).bind fun r6 => (if r6 = 0 then (fM_bad (-1 : Int32) m).bind fun r23 => some (r23.1, r23.2) else xck 3 v1 (some ((m.1 3 v1.toNatClampNeg), m)))
set_option maxRecDepth 100000 in
set_option maxHeartbeats 4000000 in
theorem kM_status (G : xG)   (z : xM) (m : xM) (v1 : Int32) : ∀ a, fM_status  v1 m = some a → xCt G yyM_status [.ref (xa G 85), .int v1] (z, m) (some (.int a.1)) (z, a.2) := by
  refine xR_ct (em := (emim z)) rfl (Nat.le_of_ble_eq_true rfl) ?_
  show xR G yyM_status _ 0 [(0, .ref (xa G 85)), (1, .int v1)] [] _ _
  unfold fM_status
  refine xR_iln 0 1 dM_status_0 rfl rfl ?_
  refine xR_i2l 1 dM_status_1 ?_
  refine xR_lc 2 (0 : Int64) dM_status_2 (by decide) ?_
  refine xR_ldc2 3 cl_RX9_121 dM_status_3 ?_
  refine xR_callSi 6 cs_M_in ml_RX9_40 ⟨Nat.le_of_ble_eq_true rfl, Nat.le_of_ble_eq_true rfl⟩ [.long ((v1).toInt64), .long (0 : Int64), .long (2 : Int64)] rfl rfl (Nat.le_of_ble_eq_true rfl) dM_status_6 (kM_in G (z, m) ((v1).toInt64) (0 : Int64) (2 : Int64)) (fun r6 => ?_)
  refine xR_ifeq 9 21 dM_status_9 (by decide) ?_ ?_
  · refine xR_aln 21 0 dM_status_21 rfl rfl ?_
    refine xR_ic 22 (-1 : Int32) dM_status_22 (by decide) ?_
    refine xR_callVim 23 cv_M_bad ml_RX9_66 ⟨Nat.le_of_ble_eq_true rfl, Nat.le_of_ble_eq_true rfl⟩ xcf7 rfl 85 (by decide) rfl [.int (-1 : Int32)] rfl rfl (Nat.le_of_ble_eq_true rfl) dM_status_23 (kM_bad G z m (-1 : Int32)) (fun r23 => ?_)
    exact xR_iret 26 rfl rfl dM_status_26
  · refine xR_aln 12 0 dM_status_12 rfl rfl ?_
    refine xR_getf 13 xcf7 6 85 (by decide) (by decide) rfl (v := .ref (xa G 89)) rfl fl_RX9_27 dM_status_13 ?_
    refine xR_iln 16 1 dM_status_16 rfl rfl ?_
    refine xR_iald 17 89 (by decide) rfl dM_status_17 ?_
    refine xR_goto 18 26 dM_status_18 (by decide) ?_
    exact xR_iret 26 rfl rfl dM_status_26
theorem dM_countOf_0 : decode (xb yyM_countOf) 0 = .ok (.iload_n 1, 1) := by decide +kernel
theorem dM_countOf_1 : decode (xb yyM_countOf) 1 = .ok (.tableswitch 131 0 9 #[55, 62, 69, 76, 84, 91, 98, 106, 114, 122], 55) := by decide +kernel
theorem dM_countOf_56 : decode (xb yyM_countOf) 56 = .ok (.aload_n 0, 1) := by decide +kernel
theorem dM_countOf_57 : decode (xb yyM_countOf) 57 = .ok (.getfield 7, 3) := by decide +kernel
theorem dM_countOf_60 : decode (xb yyM_countOf) 60 = .ok (.iconst 0, 1) := by decide +kernel
theorem dM_countOf_61 : decode (xb yyM_countOf) 61 = .ok (.iaload, 1) := by decide +kernel
theorem dM_countOf_62 : decode (xb yyM_countOf) 62 = .ok (.ireturn, 1) := by decide +kernel
theorem dM_countOf_63 : decode (xb yyM_countOf) 63 = .ok (.aload_n 0, 1) := by decide +kernel
theorem dM_countOf_64 : decode (xb yyM_countOf) 64 = .ok (.getfield 7, 3) := by decide +kernel
theorem dM_countOf_67 : decode (xb yyM_countOf) 67 = .ok (.iconst 1, 1) := by decide +kernel
theorem dM_countOf_68 : decode (xb yyM_countOf) 68 = .ok (.iaload, 1) := by decide +kernel
theorem dM_countOf_69 : decode (xb yyM_countOf) 69 = .ok (.ireturn, 1) := by decide +kernel
theorem dM_countOf_70 : decode (xb yyM_countOf) 70 = .ok (.aload_n 0, 1) := by decide +kernel
theorem dM_countOf_71 : decode (xb yyM_countOf) 71 = .ok (.getfield 7, 3) := by decide +kernel
theorem dM_countOf_74 : decode (xb yyM_countOf) 74 = .ok (.iconst 2, 1) := by decide +kernel
theorem dM_countOf_75 : decode (xb yyM_countOf) 75 = .ok (.iaload, 1) := by decide +kernel
theorem dM_countOf_76 : decode (xb yyM_countOf) 76 = .ok (.ireturn, 1) := by decide +kernel
theorem dM_countOf_77 : decode (xb yyM_countOf) 77 = .ok (.aload_n 0, 1) := by decide +kernel
theorem dM_countOf_78 : decode (xb yyM_countOf) 78 = .ok (.invokevirtual 217, 3) := by decide +kernel
theorem dM_countOf_81 : decode (xb yyM_countOf) 81 = .ok (.invokestatic 189, 3) := by decide +kernel
theorem dM_countOf_84 : decode (xb yyM_countOf) 84 = .ok (.ireturn, 1) := by decide +kernel
theorem dM_countOf_85 : decode (xb yyM_countOf) 85 = .ok (.aload_n 0, 1) := by decide +kernel
theorem dM_countOf_86 : decode (xb yyM_countOf) 86 = .ok (.bipush 32, 2) := by decide +kernel
theorem dM_countOf_88 : decode (xb yyM_countOf) 88 = .ok (.invokevirtual 174, 3) := by decide +kernel
theorem dM_countOf_91 : decode (xb yyM_countOf) 91 = .ok (.ireturn, 1) := by decide +kernel
theorem dM_countOf_92 : decode (xb yyM_countOf) 92 = .ok (.aload_n 0, 1) := by decide +kernel
theorem dM_countOf_93 : decode (xb yyM_countOf) 93 = .ok (.bipush 20, 2) := by decide +kernel
theorem dM_countOf_95 : decode (xb yyM_countOf) 95 = .ok (.invokevirtual 174, 3) := by decide +kernel
theorem dM_countOf_98 : decode (xb yyM_countOf) 98 = .ok (.ireturn, 1) := by decide +kernel
theorem dM_countOf_99 : decode (xb yyM_countOf) 99 = .ok (.aload_n 0, 1) := by decide +kernel
theorem dM_countOf_100 : decode (xb yyM_countOf) 100 = .ok (.getfield 7, 3) := by decide +kernel
theorem dM_countOf_103 : decode (xb yyM_countOf) 103 = .ok (.bipush 48, 2) := by decide +kernel
theorem dM_countOf_105 : decode (xb yyM_countOf) 105 = .ok (.iaload, 1) := by decide +kernel
theorem dM_countOf_106 : decode (xb yyM_countOf) 106 = .ok (.ireturn, 1) := by decide +kernel
theorem dM_countOf_107 : decode (xb yyM_countOf) 107 = .ok (.aload_n 0, 1) := by decide +kernel
theorem dM_countOf_108 : decode (xb yyM_countOf) 108 = .ok (.getfield 7, 3) := by decide +kernel
theorem dM_countOf_111 : decode (xb yyM_countOf) 111 = .ok (.bipush 61, 2) := by decide +kernel
theorem dM_countOf_113 : decode (xb yyM_countOf) 113 = .ok (.iaload, 1) := by decide +kernel
theorem dM_countOf_114 : decode (xb yyM_countOf) 114 = .ok (.ireturn, 1) := by decide +kernel
theorem dM_countOf_115 : decode (xb yyM_countOf) 115 = .ok (.aload_n 0, 1) := by decide +kernel
theorem dM_countOf_116 : decode (xb yyM_countOf) 116 = .ok (.getfield 7, 3) := by decide +kernel
theorem dM_countOf_119 : decode (xb yyM_countOf) 119 = .ok (.bipush 92, 2) := by decide +kernel
theorem dM_countOf_121 : decode (xb yyM_countOf) 121 = .ok (.iaload, 1) := by decide +kernel
theorem dM_countOf_122 : decode (xb yyM_countOf) 122 = .ok (.ireturn, 1) := by decide +kernel
theorem dM_countOf_123 : decode (xb yyM_countOf) 123 = .ok (.aload_n 0, 1) := by decide +kernel
theorem dM_countOf_124 : decode (xb yyM_countOf) 124 = .ok (.getfield 7, 3) := by decide +kernel
theorem dM_countOf_127 : decode (xb yyM_countOf) 127 = .ok (.sipush 129, 3) := by decide +kernel
theorem dM_countOf_130 : decode (xb yyM_countOf) 130 = .ok (.iaload, 1) := by decide +kernel
theorem dM_countOf_131 : decode (xb yyM_countOf) 131 = .ok (.ireturn, 1) := by decide +kernel
theorem dM_countOf_132 : decode (xb yyM_countOf) 132 = .ok (.aload_n 0, 1) := by decide +kernel
theorem dM_countOf_133 : decode (xb yyM_countOf) 133 = .ok (.getfield 36, 3) := by decide +kernel
theorem dM_countOf_136 : decode (xb yyM_countOf) 136 = .ok (.ireturn, 1) := by decide +kernel
def fM_countOf  (m : xM) (v1 : Int32) : Option (Int32) := (if v1 = (0 : Int32) then xck 1752 (0 : Int32) (some (m.1 0 (0 : Int32).toNatClampNeg)) else (if v1 = (1 : Int32) then xck 1752 (1 : Int32) (some (m.1 0 (1 : Int32).toNatClampNeg)) else (if v1 = (2 : Int32) then xck 1752 (2 : Int32) (some (m.1 0 (2 : Int32).toNatClampNeg)) else (if v1 = (3 : Int32) then (fM_freeOnes m).bind fun r78 => (fM_ones r78).bind fun r81 => some r81 else (if v1 = (4 : Int32) then (fM_sumOf m (32 : Int32)).bind fun r88 => some r88 else (if v1 = (5 : Int32) then (fM_sumOf m (20 : Int32)).bind fun r95 => some r95 else (if v1 = (6 : Int32) then xck 1752 (48 : Int32) (some (m.1 0 (48 : Int32).toNatClampNeg)) else (if v1 = (7 : Int32) then xck 1752 (61 : Int32) (some (m.1 0 (61 : Int32).toNatClampNeg)) else (if v1 = (8 : Int32) then xck 1752 (92 : Int32) (some (m.1 0 (92 : Int32).toNatClampNeg)) else (if v1 = (9 : Int32) then xck 1752 (129 : Int32) (some (m.1 0 (129 : Int32).toNatClampNeg)) else some (m.1 6 0)))))))))))
set_option maxRecDepth 100000 in
set_option maxHeartbeats 4000000 in
theorem kM_countOf (G : xG)   (z : xM) (m : xM) (v1 : Int32) : ∀ a, fM_countOf m v1 = some a → xCt G yyM_countOf [.ref (xa G 85), .int v1] (z, m) (some (.int a)) (z, m) := by
  refine xR_ct (em := (emi (z, m))) rfl (Nat.le_of_ble_eq_true rfl) ?_
  show xR G yyM_countOf _ 0 [(0, .ref (xa G 85)), (1, .int v1)] [] _ _
  unfold fM_countOf
  refine xR_iln 0 1 dM_countOf_0 rfl rfl ?_
  refine xR_tsw 1 56 (0 : Int32) dM_countOf_1 (by decide) (by decide) rfl (by decide) ?_ (fun hs1_0 => ?_)
  · refine xR_aln 56 0 dM_countOf_56 rfl rfl ?_
    refine xR_getf 57 xcf7 0 85 (by decide) (by decide) rfl (v := .ref (xa G 86)) rfl fl_RX9_7 dM_countOf_57 ?_
    refine xR_ic 60 (0 : Int32) dM_countOf_60 (by decide) ?_
    refine xR_iald 61 86 (by decide) rfl dM_countOf_61 ?_
    exact xR_iret 62 rfl rfl dM_countOf_62
  refine xR_tsw 1 63 (1 : Int32) dM_countOf_1 (by decide) (by decide) rfl (by decide) ?_ (fun hs1_1 => ?_)
  · refine xR_aln 63 0 dM_countOf_63 rfl rfl ?_
    refine xR_getf 64 xcf7 0 85 (by decide) (by decide) rfl (v := .ref (xa G 86)) rfl fl_RX9_7 dM_countOf_64 ?_
    refine xR_ic 67 (1 : Int32) dM_countOf_67 (by decide) ?_
    refine xR_iald 68 86 (by decide) rfl dM_countOf_68 ?_
    exact xR_iret 69 rfl rfl dM_countOf_69
  refine xR_tsw 1 70 (2 : Int32) dM_countOf_1 (by decide) (by decide) rfl (by decide) ?_ (fun hs1_2 => ?_)
  · refine xR_aln 70 0 dM_countOf_70 rfl rfl ?_
    refine xR_getf 71 xcf7 0 85 (by decide) (by decide) rfl (v := .ref (xa G 86)) rfl fl_RX9_7 dM_countOf_71 ?_
    refine xR_ic 74 (2 : Int32) dM_countOf_74 (by decide) ?_
    refine xR_iald 75 86 (by decide) rfl dM_countOf_75 ?_
    exact xR_iret 76 rfl rfl dM_countOf_76
  refine xR_tsw 1 77 (3 : Int32) dM_countOf_1 (by decide) (by decide) rfl (by decide) ?_ (fun hs1_3 => ?_)
  · refine xR_aln 77 0 dM_countOf_77 rfl rfl ?_
    refine xR_callVi 78 cv_M_freeOnes ml_RX9_217 ⟨Nat.le_of_ble_eq_true rfl, Nat.le_of_ble_eq_true rfl⟩ xcf7 rfl 85 (by decide) rfl [] rfl rfl (Nat.le_of_ble_eq_true rfl) dM_countOf_78 (kM_freeOnes G z m) (fun r78 => ?_)
    refine xR_callSi 81 cs_M_ones ml_RX9_189 ⟨Nat.le_of_ble_eq_true rfl, Nat.le_of_ble_eq_true rfl⟩ [.int r78] rfl rfl (Nat.le_of_ble_eq_true rfl) dM_countOf_81 (kM_ones G (z, m) r78) (fun r81 => ?_)
    exact xR_iret 84 rfl rfl dM_countOf_84
  refine xR_tsw 1 85 (4 : Int32) dM_countOf_1 (by decide) (by decide) rfl (by decide) ?_ (fun hs1_4 => ?_)
  · refine xR_aln 85 0 dM_countOf_85 rfl rfl ?_
    refine xR_bp 86 (32 : Int32) dM_countOf_86 (by decide) ?_
    refine xR_callVi 88 cv_M_sumOf ml_RX9_174 ⟨Nat.le_of_ble_eq_true rfl, Nat.le_of_ble_eq_true rfl⟩ xcf7 rfl 85 (by decide) rfl [.int (32 : Int32)] rfl rfl (Nat.le_of_ble_eq_true rfl) dM_countOf_88 (kM_sumOf G z m (32 : Int32)) (fun r88 => ?_)
    exact xR_iret 91 rfl rfl dM_countOf_91
  refine xR_tsw 1 92 (5 : Int32) dM_countOf_1 (by decide) (by decide) rfl (by decide) ?_ (fun hs1_5 => ?_)
  · refine xR_aln 92 0 dM_countOf_92 rfl rfl ?_
    refine xR_bp 93 (20 : Int32) dM_countOf_93 (by decide) ?_
    refine xR_callVi 95 cv_M_sumOf ml_RX9_174 ⟨Nat.le_of_ble_eq_true rfl, Nat.le_of_ble_eq_true rfl⟩ xcf7 rfl 85 (by decide) rfl [.int (20 : Int32)] rfl rfl (Nat.le_of_ble_eq_true rfl) dM_countOf_95 (kM_sumOf G z m (20 : Int32)) (fun r95 => ?_)
    exact xR_iret 98 rfl rfl dM_countOf_98
  refine xR_tsw 1 99 (6 : Int32) dM_countOf_1 (by decide) (by decide) rfl (by decide) ?_ (fun hs1_6 => ?_)
  · refine xR_aln 99 0 dM_countOf_99 rfl rfl ?_
    refine xR_getf 100 xcf7 0 85 (by decide) (by decide) rfl (v := .ref (xa G 86)) rfl fl_RX9_7 dM_countOf_100 ?_
    refine xR_bp 103 (48 : Int32) dM_countOf_103 (by decide) ?_
    refine xR_iald 105 86 (by decide) rfl dM_countOf_105 ?_
    exact xR_iret 106 rfl rfl dM_countOf_106
  refine xR_tsw 1 107 (7 : Int32) dM_countOf_1 (by decide) (by decide) rfl (by decide) ?_ (fun hs1_7 => ?_)
  · refine xR_aln 107 0 dM_countOf_107 rfl rfl ?_
    refine xR_getf 108 xcf7 0 85 (by decide) (by decide) rfl (v := .ref (xa G 86)) rfl fl_RX9_7 dM_countOf_108 ?_
    refine xR_bp 111 (61 : Int32) dM_countOf_111 (by decide) ?_
    refine xR_iald 113 86 (by decide) rfl dM_countOf_113 ?_
    exact xR_iret 114 rfl rfl dM_countOf_114
  refine xR_tsw 1 115 (8 : Int32) dM_countOf_1 (by decide) (by decide) rfl (by decide) ?_ (fun hs1_8 => ?_)
  · refine xR_aln 115 0 dM_countOf_115 rfl rfl ?_
    refine xR_getf 116 xcf7 0 85 (by decide) (by decide) rfl (v := .ref (xa G 86)) rfl fl_RX9_7 dM_countOf_116 ?_
    refine xR_bp 119 (92 : Int32) dM_countOf_119 (by decide) ?_
    refine xR_iald 121 86 (by decide) rfl dM_countOf_121 ?_
    exact xR_iret 122 rfl rfl dM_countOf_122
  refine xR_tsw 1 123 (9 : Int32) dM_countOf_1 (by decide) (by decide) rfl (by decide) ?_ (fun hs1_9 => ?_)
  · refine xR_aln 123 0 dM_countOf_123 rfl rfl ?_
    refine xR_getf 124 xcf7 0 85 (by decide) (by decide) rfl (v := .ref (xa G 86)) rfl fl_RX9_7 dM_countOf_124 ?_
    refine xR_sp 127 (129 : Int32) dM_countOf_127 (by decide) ?_
    refine xR_iald 130 86 (by decide) rfl dM_countOf_130 ?_
    exact xR_iret 131 rfl rfl dM_countOf_131
  refine xR_tso 1 132 dM_countOf_1 (by have e0 := lv_neT hs1_0 (a := 0) rfl; have e1 := lv_neT hs1_1 (a := 1) rfl; have e2 := lv_neT hs1_2 (a := 2) rfl; have e3 := lv_neT hs1_3 (a := 3) rfl; have e4 := lv_neT hs1_4 (a := 4) rfl; have e5 := lv_neT hs1_5 (a := 5) rfl; have e6 := lv_neT hs1_6 (a := 6) rfl; have e7 := lv_neT hs1_7 (a := 7) rfl; have e8 := lv_neT hs1_8 (a := 8) rfl; have e9 := lv_neT hs1_9 (a := 9) rfl; omega) (by decide) ?_
  refine xR_aln 132 0 dM_countOf_132 rfl rfl ?_
  refine xR_getf 133 xcf7 3 85 (by decide) (by decide) rfl (v := .int (m.1 6 0)) rfl fl_RX9_36 dM_countOf_133 ?_
  exact xR_iret 136 rfl rfl dM_countOf_136
theorem dM_count_0 : decode (xb yyM_count) 0 = .ok (.iload_n 1, 1) := by decide +kernel
theorem dM_count_1 : decode (xb yyM_count) 1 = .ok (.i2l, 1) := by decide +kernel
theorem dM_count_2 : decode (xb yyM_count) 2 = .ok (.lconst 0, 1) := by decide +kernel
theorem dM_count_3 : decode (xb yyM_count) 3 = .ok (.ldc2_w 256, 3) := by decide +kernel
theorem dM_count_6 : decode (xb yyM_count) 6 = .ok (.invokestatic 40, 3) := by decide +kernel
theorem dM_count_9 : decode (xb yyM_count) 9 = .ok (.ifCond .eq 11, 3) := by decide +kernel
theorem dM_count_12 : decode (xb yyM_count) 12 = .ok (.aload_n 0, 1) := by decide +kernel
theorem dM_count_13 : decode (xb yyM_count) 13 = .ok (.iload_n 1, 1) := by decide +kernel
theorem dM_count_14 : decode (xb yyM_count) 14 = .ok (.invokevirtual 270, 3) := by decide +kernel
theorem dM_count_17 : decode (xb yyM_count) 17 = .ok (.goto 9, 3) := by decide +kernel
theorem dM_count_20 : decode (xb yyM_count) 20 = .ok (.aload_n 0, 1) := by decide +kernel
theorem dM_count_21 : decode (xb yyM_count) 21 = .ok (.bipush (-2), 2) := by decide +kernel
theorem dM_count_23 : decode (xb yyM_count) 23 = .ok (.invokevirtual 66, 3) := by decide +kernel
theorem dM_count_26 : decode (xb yyM_count) 26 = .ok (.ireturn, 1) := by decide +kernel
def fM_count  (v1 : Int32) (m : xM) : Option (Int32 × xM) := (fM_in ((v1).toInt64) (0 : Int64) (10 : Int64)).bind fun r6 => (if r6 = 0 then (fM_bad (-2 : Int32) m).bind fun r23 => some (r23.1, r23.2) else (fM_countOf m v1).bind fun r14 => some (r14, m))
set_option maxRecDepth 100000 in
set_option maxHeartbeats 4000000 in
theorem kM_count (G : xG)   (z : xM) (m : xM) (v1 : Int32) : ∀ a, fM_count  v1 m = some a → xCt G yyM_count [.ref (xa G 85), .int v1] (z, m) (some (.int a.1)) (z, a.2) := by
  refine xR_ct (em := (emim z)) rfl (Nat.le_of_ble_eq_true rfl) ?_
  show xR G yyM_count _ 0 [(0, .ref (xa G 85)), (1, .int v1)] [] _ _
  unfold fM_count
  refine xR_iln 0 1 dM_count_0 rfl rfl ?_
  refine xR_i2l 1 dM_count_1 ?_
  refine xR_lc 2 (0 : Int64) dM_count_2 (by decide) ?_
  refine xR_ldc2 3 cl_RX9_256 dM_count_3 ?_
  refine xR_callSi 6 cs_M_in ml_RX9_40 ⟨Nat.le_of_ble_eq_true rfl, Nat.le_of_ble_eq_true rfl⟩ [.long ((v1).toInt64), .long (0 : Int64), .long (10 : Int64)] rfl rfl (Nat.le_of_ble_eq_true rfl) dM_count_6 (kM_in G (z, m) ((v1).toInt64) (0 : Int64) (10 : Int64)) (fun r6 => ?_)
  refine xR_ifeq 9 20 dM_count_9 (by decide) ?_ ?_
  · refine xR_aln 20 0 dM_count_20 rfl rfl ?_
    refine xR_bp 21 (-2 : Int32) dM_count_21 (by decide) ?_
    refine xR_callVim 23 cv_M_bad ml_RX9_66 ⟨Nat.le_of_ble_eq_true rfl, Nat.le_of_ble_eq_true rfl⟩ xcf7 rfl 85 (by decide) rfl [.int (-2 : Int32)] rfl rfl (Nat.le_of_ble_eq_true rfl) dM_count_23 (kM_bad G z m (-2 : Int32)) (fun r23 => ?_)
    exact xR_iret 26 rfl rfl dM_count_26
  · refine xR_aln 12 0 dM_count_12 rfl rfl ?_
    refine xR_iln 13 1 dM_count_13 rfl rfl ?_
    refine xR_callVi 14 cv_M_countOf ml_RX9_270 ⟨Nat.le_of_ble_eq_true rfl, Nat.le_of_ble_eq_true rfl⟩ xcf7 rfl 85 (by decide) rfl [.int v1] rfl rfl (Nat.le_of_ble_eq_true rfl) dM_count_14 (kM_countOf G z m v1) (fun r14 => ?_)
    refine xR_goto 17 26 dM_count_17 (by decide) ?_
    exact xR_iret 26 rfl rfl dM_count_26
theorem dM_mix_0 : decode (xb yyM_mix) 0 = .ok (.aload_n 0, 1) := by decide +kernel
theorem dM_mix_1 : decode (xb yyM_mix) 1 = .ok (.ldc2_w 273, 3) := by decide +kernel
theorem dM_mix_4 : decode (xb yyM_mix) 4 = .ok (.aload_n 0, 1) := by decide +kernel
theorem dM_mix_5 : decode (xb yyM_mix) 5 = .ok (.getfield 275, 3) := by decide +kernel
theorem dM_mix_8 : decode (xb yyM_mix) 8 = .ok (.lmul, 1) := by decide +kernel
theorem dM_mix_9 : decode (xb yyM_mix) 9 = .ok (.lload_n 1, 1) := by decide +kernel
theorem dM_mix_10 : decode (xb yyM_mix) 10 = .ok (.ladd, 1) := by decide +kernel
theorem dM_mix_11 : decode (xb yyM_mix) 11 = .ok (.putfield 275, 3) := by decide +kernel
theorem dM_mix_14 : decode (xb yyM_mix) 14 = .ok (.return_, 1) := by decide +kernel
def fM_mix  (v1 : Int64) (m : xM) : Option (xM) := some (xsel m 2 (((31 : Int64) * (m.2 2)) + v1))
set_option maxRecDepth 100000 in
set_option maxHeartbeats 4000000 in
theorem kM_mix (G : xG)   (z : xM) (m : xM) (v1 : Int64) : ∀ a, fM_mix  v1 m = some a → xCt G yyM_mix [.ref (xa G 85), .long v1] (z, m) (none) (z, a) := by
  refine xR_ct (em := (emvm z)) rfl (Nat.le_of_ble_eq_true rfl) ?_
  show xR G yyM_mix _ 0 [(0, .ref (xa G 85)), (1, .long v1)] [] _ _
  unfold fM_mix
  refine xR_aln 0 0 dM_mix_0 rfl rfl ?_
  refine xR_ldc2 1 cl_RX9_273 dM_mix_1 ?_
  refine xR_aln 4 0 dM_mix_4 rfl rfl ?_
  refine xR_getf 5 xcf7 12 85 (by decide) (by decide) rfl (v := .long (m.2 2)) rfl fl_RX9_275 dM_mix_5 ?_
  refine xR_lmul 8 dM_mix_8 ?_
  refine xR_lln 9 1 dM_mix_9 rfl rfl ?_
  refine xR_ladd 10 dM_mix_10 ?_
  refine xR_putf 11 xcf7 12 85 (by decide) (by decide) rfl rfl rfl rfl (Nat.le_of_ble_eq_true rfl) (z, (xsel m 2 (((31 : Int64) * (m.2 2)) + v1))) (xW_mlng (i := 2) rfl) fl_RX9_275 dM_mix_11 ?_
  exact xR_vret 14 rfl rfl dM_mix_14
theorem dM_digest_0 : decode (xb yyM_digest) 0 = .ok (.aload_n 0, 1) := by decide +kernel
theorem dM_digest_1 : decode (xb yyM_digest) 1 = .ok (.ldc2_w 278, 3) := by decide +kernel
theorem dM_digest_4 : decode (xb yyM_digest) 4 = .ok (.putfield 275, 3) := by decide +kernel
theorem dM_digest_7 : decode (xb yyM_digest) 7 = .ok (.iconst 0, 1) := by decide +kernel
theorem dM_digest_8 : decode (xb yyM_digest) 8 = .ok (.istore_n 1, 1) := by decide +kernel
theorem dM_digest_9 : decode (xb yyM_digest) 9 = .ok (.iload_n 1, 1) := by decide +kernel
theorem dM_digest_10 : decode (xb yyM_digest) 10 = .ok (.bipush 11, 2) := by decide +kernel
theorem dM_digest_12 : decode (xb yyM_digest) 12 = .ok (.if_icmp .ge 19, 3) := by decide +kernel
theorem dM_digest_15 : decode (xb yyM_digest) 15 = .ok (.aload_n 0, 1) := by decide +kernel
theorem dM_digest_16 : decode (xb yyM_digest) 16 = .ok (.aload_n 0, 1) := by decide +kernel
theorem dM_digest_17 : decode (xb yyM_digest) 17 = .ok (.iload_n 1, 1) := by decide +kernel
theorem dM_digest_18 : decode (xb yyM_digest) 18 = .ok (.invokevirtual 270, 3) := by decide +kernel
theorem dM_digest_21 : decode (xb yyM_digest) 21 = .ok (.i2l, 1) := by decide +kernel
theorem dM_digest_22 : decode (xb yyM_digest) 22 = .ok (.invokevirtual 280, 3) := by decide +kernel
theorem dM_digest_25 : decode (xb yyM_digest) 25 = .ok (.iinc 1 1, 3) := by decide +kernel
theorem dM_digest_28 : decode (xb yyM_digest) 28 = .ok (.goto (-19), 3) := by decide +kernel
theorem dM_digest_31 : decode (xb yyM_digest) 31 = .ok (.iconst 0, 1) := by decide +kernel
theorem dM_digest_32 : decode (xb yyM_digest) 32 = .ok (.istore_n 1, 1) := by decide +kernel
theorem dM_digest_33 : decode (xb yyM_digest) 33 = .ok (.iload_n 1, 1) := by decide +kernel
theorem dM_digest_34 : decode (xb yyM_digest) 34 = .ok (.iconst 5, 1) := by decide +kernel
theorem dM_digest_35 : decode (xb yyM_digest) 35 = .ok (.if_icmp .ge 22, 3) := by decide +kernel
theorem dM_digest_38 : decode (xb yyM_digest) 38 = .ok (.aload_n 0, 1) := by decide +kernel
theorem dM_digest_39 : decode (xb yyM_digest) 39 = .ok (.aload_n 0, 1) := by decide +kernel
theorem dM_digest_40 : decode (xb yyM_digest) 40 = .ok (.getfield 7, 3) := by decide +kernel
theorem dM_digest_43 : decode (xb yyM_digest) 43 = .ok (.iconst 3, 1) := by decide +kernel
theorem dM_digest_44 : decode (xb yyM_digest) 44 = .ok (.iload_n 1, 1) := by decide +kernel
theorem dM_digest_45 : decode (xb yyM_digest) 45 = .ok (.iadd, 1) := by decide +kernel
theorem dM_digest_46 : decode (xb yyM_digest) 46 = .ok (.iaload, 1) := by decide +kernel
theorem dM_digest_47 : decode (xb yyM_digest) 47 = .ok (.i2l, 1) := by decide +kernel
theorem dM_digest_48 : decode (xb yyM_digest) 48 = .ok (.invokevirtual 280, 3) := by decide +kernel
theorem dM_digest_51 : decode (xb yyM_digest) 51 = .ok (.iinc 1 1, 3) := by decide +kernel
theorem dM_digest_54 : decode (xb yyM_digest) 54 = .ok (.goto (-21), 3) := by decide +kernel
theorem dM_digest_57 : decode (xb yyM_digest) 57 = .ok (.iconst 0, 1) := by decide +kernel
theorem dM_digest_58 : decode (xb yyM_digest) 58 = .ok (.istore_n 1, 1) := by decide +kernel
theorem dM_digest_59 : decode (xb yyM_digest) 59 = .ok (.iload_n 1, 1) := by decide +kernel
theorem dM_digest_60 : decode (xb yyM_digest) 60 = .ok (.aload_n 0, 1) := by decide +kernel
theorem dM_digest_61 : decode (xb yyM_digest) 61 = .ok (.getfield 7, 3) := by decide +kernel
theorem dM_digest_64 : decode (xb yyM_digest) 64 = .ok (.iconst 0, 1) := by decide +kernel
theorem dM_digest_65 : decode (xb yyM_digest) 65 = .ok (.iaload, 1) := by decide +kernel
theorem dM_digest_66 : decode (xb yyM_digest) 66 = .ok (.if_icmp .ge 34, 3) := by decide +kernel
theorem dM_digest_69 : decode (xb yyM_digest) 69 = .ok (.iconst 0, 1) := by decide +kernel
theorem dM_digest_70 : decode (xb yyM_digest) 70 = .ok (.istore_n 2, 1) := by decide +kernel
theorem dM_digest_71 : decode (xb yyM_digest) 71 = .ok (.iload_n 2, 1) := by decide +kernel
theorem dM_digest_72 : decode (xb yyM_digest) 72 = .ok (.bipush 6, 2) := by decide +kernel
theorem dM_digest_74 : decode (xb yyM_digest) 74 = .ok (.if_icmp .ge 20, 3) := by decide +kernel
theorem dM_digest_77 : decode (xb yyM_digest) 77 = .ok (.aload_n 0, 1) := by decide +kernel
theorem dM_digest_78 : decode (xb yyM_digest) 78 = .ok (.aload_n 0, 1) := by decide +kernel
theorem dM_digest_79 : decode (xb yyM_digest) 79 = .ok (.iload_n 1, 1) := by decide +kernel
theorem dM_digest_80 : decode (xb yyM_digest) 80 = .ok (.iload_n 2, 1) := by decide +kernel
theorem dM_digest_81 : decode (xb yyM_digest) 81 = .ok (.invokevirtual 186, 3) := by decide +kernel
theorem dM_digest_84 : decode (xb yyM_digest) 84 = .ok (.i2l, 1) := by decide +kernel
theorem dM_digest_85 : decode (xb yyM_digest) 85 = .ok (.invokevirtual 280, 3) := by decide +kernel
theorem dM_digest_88 : decode (xb yyM_digest) 88 = .ok (.iinc 2 1, 3) := by decide +kernel
theorem dM_digest_91 : decode (xb yyM_digest) 91 = .ok (.goto (-20), 3) := by decide +kernel
theorem dM_digest_94 : decode (xb yyM_digest) 94 = .ok (.iinc 1 1, 3) := by decide +kernel
theorem dM_digest_97 : decode (xb yyM_digest) 97 = .ok (.goto (-38), 3) := by decide +kernel
theorem dM_digest_100 : decode (xb yyM_digest) 100 = .ok (.iconst 0, 1) := by decide +kernel
theorem dM_digest_101 : decode (xb yyM_digest) 101 = .ok (.istore_n 1, 1) := by decide +kernel
theorem dM_digest_102 : decode (xb yyM_digest) 102 = .ok (.iload_n 1, 1) := by decide +kernel
theorem dM_digest_103 : decode (xb yyM_digest) 103 = .ok (.aload_n 0, 1) := by decide +kernel
theorem dM_digest_104 : decode (xb yyM_digest) 104 = .ok (.getfield 7, 3) := by decide +kernel
theorem dM_digest_107 : decode (xb yyM_digest) 107 = .ok (.iconst 1, 1) := by decide +kernel
theorem dM_digest_108 : decode (xb yyM_digest) 108 = .ok (.iaload, 1) := by decide +kernel
theorem dM_digest_109 : decode (xb yyM_digest) 109 = .ok (.if_icmp .ge 23, 3) := by decide +kernel
theorem dM_digest_112 : decode (xb yyM_digest) 112 = .ok (.aload_n 0, 1) := by decide +kernel
theorem dM_digest_113 : decode (xb yyM_digest) 113 = .ok (.aload_n 0, 1) := by decide +kernel
theorem dM_digest_114 : decode (xb yyM_digest) 114 = .ok (.getfield 7, 3) := by decide +kernel
theorem dM_digest_117 : decode (xb yyM_digest) 117 = .ok (.bipush 44, 2) := by decide +kernel
theorem dM_digest_119 : decode (xb yyM_digest) 119 = .ok (.iload_n 1, 1) := by decide +kernel
theorem dM_digest_120 : decode (xb yyM_digest) 120 = .ok (.iadd, 1) := by decide +kernel
theorem dM_digest_121 : decode (xb yyM_digest) 121 = .ok (.iaload, 1) := by decide +kernel
theorem dM_digest_122 : decode (xb yyM_digest) 122 = .ok (.i2l, 1) := by decide +kernel
theorem dM_digest_123 : decode (xb yyM_digest) 123 = .ok (.invokevirtual 280, 3) := by decide +kernel
theorem dM_digest_126 : decode (xb yyM_digest) 126 = .ok (.iinc 1 1, 3) := by decide +kernel
theorem dM_digest_129 : decode (xb yyM_digest) 129 = .ok (.goto (-27), 3) := by decide +kernel
theorem dM_digest_132 : decode (xb yyM_digest) 132 = .ok (.iconst 0, 1) := by decide +kernel
theorem dM_digest_133 : decode (xb yyM_digest) 133 = .ok (.istore_n 1, 1) := by decide +kernel
theorem dM_digest_134 : decode (xb yyM_digest) 134 = .ok (.iload_n 1, 1) := by decide +kernel
theorem dM_digest_135 : decode (xb yyM_digest) 135 = .ok (.iconst 2, 1) := by decide +kernel
theorem dM_digest_136 : decode (xb yyM_digest) 136 = .ok (.aload_n 0, 1) := by decide +kernel
theorem dM_digest_137 : decode (xb yyM_digest) 137 = .ok (.getfield 7, 3) := by decide +kernel
theorem dM_digest_140 : decode (xb yyM_digest) 140 = .ok (.bipush 48, 2) := by decide +kernel
theorem dM_digest_142 : decode (xb yyM_digest) 142 = .ok (.iaload, 1) := by decide +kernel
theorem dM_digest_143 : decode (xb yyM_digest) 143 = .ok (.imul, 1) := by decide +kernel
theorem dM_digest_144 : decode (xb yyM_digest) 144 = .ok (.if_icmp .ge 23, 3) := by decide +kernel
theorem dM_digest_147 : decode (xb yyM_digest) 147 = .ok (.aload_n 0, 1) := by decide +kernel
theorem dM_digest_148 : decode (xb yyM_digest) 148 = .ok (.aload_n 0, 1) := by decide +kernel
theorem dM_digest_149 : decode (xb yyM_digest) 149 = .ok (.getfield 7, 3) := by decide +kernel
theorem dM_digest_152 : decode (xb yyM_digest) 152 = .ok (.bipush 49, 2) := by decide +kernel
theorem dM_digest_154 : decode (xb yyM_digest) 154 = .ok (.iload_n 1, 1) := by decide +kernel
theorem dM_digest_155 : decode (xb yyM_digest) 155 = .ok (.iadd, 1) := by decide +kernel
theorem dM_digest_156 : decode (xb yyM_digest) 156 = .ok (.iaload, 1) := by decide +kernel
theorem dM_digest_157 : decode (xb yyM_digest) 157 = .ok (.i2l, 1) := by decide +kernel
theorem dM_digest_158 : decode (xb yyM_digest) 158 = .ok (.invokevirtual 280, 3) := by decide +kernel
theorem dM_digest_161 : decode (xb yyM_digest) 161 = .ok (.iinc 1 1, 3) := by decide +kernel
theorem dM_digest_164 : decode (xb yyM_digest) 164 = .ok (.goto (-30), 3) := by decide +kernel
theorem dM_digest_167 : decode (xb yyM_digest) 167 = .ok (.iconst 0, 1) := by decide +kernel
theorem dM_digest_168 : decode (xb yyM_digest) 168 = .ok (.istore_n 1, 1) := by decide +kernel
theorem dM_digest_169 : decode (xb yyM_digest) 169 = .ok (.iload_n 1, 1) := by decide +kernel
theorem dM_digest_170 : decode (xb yyM_digest) 170 = .ok (.iconst 5, 1) := by decide +kernel
theorem dM_digest_171 : decode (xb yyM_digest) 171 = .ok (.aload_n 0, 1) := by decide +kernel
theorem dM_digest_172 : decode (xb yyM_digest) 172 = .ok (.getfield 7, 3) := by decide +kernel
theorem dM_digest_175 : decode (xb yyM_digest) 175 = .ok (.bipush 61, 2) := by decide +kernel
theorem dM_digest_177 : decode (xb yyM_digest) 177 = .ok (.iaload, 1) := by decide +kernel
theorem dM_digest_178 : decode (xb yyM_digest) 178 = .ok (.imul, 1) := by decide +kernel
theorem dM_digest_179 : decode (xb yyM_digest) 179 = .ok (.if_icmp .ge 23, 3) := by decide +kernel
theorem dM_digest_182 : decode (xb yyM_digest) 182 = .ok (.aload_n 0, 1) := by decide +kernel
theorem dM_digest_183 : decode (xb yyM_digest) 183 = .ok (.aload_n 0, 1) := by decide +kernel
theorem dM_digest_184 : decode (xb yyM_digest) 184 = .ok (.getfield 7, 3) := by decide +kernel
theorem dM_digest_187 : decode (xb yyM_digest) 187 = .ok (.bipush 62, 2) := by decide +kernel
theorem dM_digest_189 : decode (xb yyM_digest) 189 = .ok (.iload_n 1, 1) := by decide +kernel
theorem dM_digest_190 : decode (xb yyM_digest) 190 = .ok (.iadd, 1) := by decide +kernel
theorem dM_digest_191 : decode (xb yyM_digest) 191 = .ok (.iaload, 1) := by decide +kernel
theorem dM_digest_192 : decode (xb yyM_digest) 192 = .ok (.i2l, 1) := by decide +kernel
theorem dM_digest_193 : decode (xb yyM_digest) 193 = .ok (.invokevirtual 280, 3) := by decide +kernel
theorem dM_digest_196 : decode (xb yyM_digest) 196 = .ok (.iinc 1 1, 3) := by decide +kernel
theorem dM_digest_199 : decode (xb yyM_digest) 199 = .ok (.goto (-30), 3) := by decide +kernel
theorem dM_digest_202 : decode (xb yyM_digest) 202 = .ok (.iconst 0, 1) := by decide +kernel
theorem dM_digest_203 : decode (xb yyM_digest) 203 = .ok (.istore_n 1, 1) := by decide +kernel
theorem dM_digest_204 : decode (xb yyM_digest) 204 = .ok (.iload_n 1, 1) := by decide +kernel
theorem dM_digest_205 : decode (xb yyM_digest) 205 = .ok (.bipush 6, 2) := by decide +kernel
theorem dM_digest_207 : decode (xb yyM_digest) 207 = .ok (.aload_n 0, 1) := by decide +kernel
theorem dM_digest_208 : decode (xb yyM_digest) 208 = .ok (.getfield 7, 3) := by decide +kernel
theorem dM_digest_211 : decode (xb yyM_digest) 211 = .ok (.bipush 92, 2) := by decide +kernel
theorem dM_digest_213 : decode (xb yyM_digest) 213 = .ok (.iaload, 1) := by decide +kernel
theorem dM_digest_214 : decode (xb yyM_digest) 214 = .ok (.imul, 1) := by decide +kernel
theorem dM_digest_215 : decode (xb yyM_digest) 215 = .ok (.if_icmp .ge 23, 3) := by decide +kernel
theorem dM_digest_218 : decode (xb yyM_digest) 218 = .ok (.aload_n 0, 1) := by decide +kernel
theorem dM_digest_219 : decode (xb yyM_digest) 219 = .ok (.aload_n 0, 1) := by decide +kernel
theorem dM_digest_220 : decode (xb yyM_digest) 220 = .ok (.getfield 7, 3) := by decide +kernel
theorem dM_digest_223 : decode (xb yyM_digest) 223 = .ok (.bipush 93, 2) := by decide +kernel
theorem dM_digest_225 : decode (xb yyM_digest) 225 = .ok (.iload_n 1, 1) := by decide +kernel
theorem dM_digest_226 : decode (xb yyM_digest) 226 = .ok (.iadd, 1) := by decide +kernel
theorem dM_digest_227 : decode (xb yyM_digest) 227 = .ok (.iaload, 1) := by decide +kernel
theorem dM_digest_228 : decode (xb yyM_digest) 228 = .ok (.i2l, 1) := by decide +kernel
theorem dM_digest_229 : decode (xb yyM_digest) 229 = .ok (.invokevirtual 280, 3) := by decide +kernel
theorem dM_digest_232 : decode (xb yyM_digest) 232 = .ok (.iinc 1 1, 3) := by decide +kernel
theorem dM_digest_235 : decode (xb yyM_digest) 235 = .ok (.goto (-31), 3) := by decide +kernel
theorem dM_digest_238 : decode (xb yyM_digest) 238 = .ok (.aload_n 0, 1) := by decide +kernel
theorem dM_digest_239 : decode (xb yyM_digest) 239 = .ok (.aload_n 0, 1) := by decide +kernel
theorem dM_digest_240 : decode (xb yyM_digest) 240 = .ok (.getfield 20, 3) := by decide +kernel
theorem dM_digest_243 : decode (xb yyM_digest) 243 = .ok (.invokevirtual 280, 3) := by decide +kernel
theorem dM_digest_246 : decode (xb yyM_digest) 246 = .ok (.aload_n 0, 1) := by decide +kernel
theorem dM_digest_247 : decode (xb yyM_digest) 247 = .ok (.aload_n 0, 1) := by decide +kernel
theorem dM_digest_248 : decode (xb yyM_digest) 248 = .ok (.getfield 24, 3) := by decide +kernel
theorem dM_digest_251 : decode (xb yyM_digest) 251 = .ok (.invokevirtual 280, 3) := by decide +kernel
theorem dM_digest_254 : decode (xb yyM_digest) 254 = .ok (.aload_n 0, 1) := by decide +kernel
theorem dM_digest_255 : decode (xb yyM_digest) 255 = .ok (.getfield 275, 3) := by decide +kernel
theorem dM_digest_258 : decode (xb yyM_digest) 258 = .ok (.lreturn, 1) := by decide +kernel
def fM_digest_l204  : Nat → Int32 → xM → Option (Int64 × xM)
  | 0, _, _ => none
  | n + 1, v1, m => xck 1752 (92 : Int32) ((if ((6 : Int32) * (m.1 0 (92 : Int32).toNatClampNeg)) ≤ v1 then (fM_mix (m.2 0) m).bind fun r243 => (fM_mix (r243.2 1) r243).bind fun r251 => some ((r251.2 2), r251) else xck 1752 ((93 : Int32) + v1) ((fM_mix (((m.1 0 ((93 : Int32) + v1).toNatClampNeg)).toInt64) m).bind fun r229 => fM_digest_l204 n (v1 + 1) r229)))
def fM_digest_l169  : Nat → Int32 → xM → Option (Int64 × xM)
  | 0, _, _ => none
  | n + 1, v1, m => xck 1752 (61 : Int32) ((if ((5 : Int32) * (m.1 0 (61 : Int32).toNatClampNeg)) ≤ v1 then fM_digest_l204 xfu (0 : Int32) m else xck 1752 ((62 : Int32) + v1) ((fM_mix (((m.1 0 ((62 : Int32) + v1).toNatClampNeg)).toInt64) m).bind fun r193 => fM_digest_l169 n (v1 + 1) r193)))
def fM_digest_l134  : Nat → Int32 → xM → Option (Int64 × xM)
  | 0, _, _ => none
  | n + 1, v1, m => xck 1752 (48 : Int32) ((if ((2 : Int32) * (m.1 0 (48 : Int32).toNatClampNeg)) ≤ v1 then fM_digest_l169 xfu (0 : Int32) m else xck 1752 ((49 : Int32) + v1) ((fM_mix (((m.1 0 ((49 : Int32) + v1).toNatClampNeg)).toInt64) m).bind fun r158 => fM_digest_l134 n (v1 + 1) r158)))
def fM_digest_l102  : Nat → Int32 → xM → Option (Int64 × xM)
  | 0, _, _ => none
  | n + 1, v1, m => xck 1752 (1 : Int32) ((if (m.1 0 (1 : Int32).toNatClampNeg) ≤ v1 then fM_digest_l134 xfu (0 : Int32) m else xck 1752 ((44 : Int32) + v1) ((fM_mix (((m.1 0 ((44 : Int32) + v1).toNatClampNeg)).toInt64) m).bind fun r123 => fM_digest_l102 n (v1 + 1) r123)))
def fM_digest_l71 (k59 : Int32 → xM → Option (Int64 × xM)) : Nat → Int32 → Int32 → xM → Option (Int64 × xM)
  | 0, _, _, _ => none
  | n + 1, v1, v2, m => (if (6 : Int32) ≤ v2 then k59 (v1 + 1) m else (fM_ofBoard m v1 v2).bind fun r81 => (fM_mix ((r81).toInt64) m).bind fun r85 => fM_digest_l71 k59 n v1 (v2 + 1) r85)
def fM_digest_l59  : Nat → Int32 → xM → Option (Int64 × xM)
  | 0, _, _ => none
  | n + 1, v1, m => xck 1752 (0 : Int32) ((if (m.1 0 (0 : Int32).toNatClampNeg) ≤ v1 then fM_digest_l102 xfu (0 : Int32) m else fM_digest_l71 (fM_digest_l59 n) xfu v1 (0 : Int32) m))
def fM_digest_l33  : Nat → Int32 → xM → Option (Int64 × xM)
  | 0, _, _ => none
  | n + 1, v1, m => (if (5 : Int32) ≤ v1 then fM_digest_l59 xfu (0 : Int32) m else xck 1752 ((3 : Int32) + v1) ((fM_mix (((m.1 0 ((3 : Int32) + v1).toNatClampNeg)).toInt64) m).bind fun r48 => fM_digest_l33 n (v1 + 1) r48))
def fM_digest_l9  : Nat → Int32 → xM → Option (Int64 × xM)
  | 0, _, _ => none
  | n + 1, v1, m => (if (11 : Int32) ≤ v1 then fM_digest_l33 xfu (0 : Int32) m else (fM_countOf m v1).bind fun r18 => (fM_mix ((r18).toInt64) m).bind fun r22 => fM_digest_l9 n (v1 + 1) r22)
def fM_digest  (m : xM) : Option (Int64 × xM) := fM_digest_l9 xfu (0 : Int32) (xsel m 2 (1523 : Int64))
set_option maxRecDepth 100000 in
set_option maxHeartbeats 4000000 in
theorem kM_digest_l204 (G : xG)   (z : xM)    : ∀ (n : Nat) (v1 : Int32) (m : xM), xR G yyM_digest (emlm z) 204 [(0, .ref (xa G 85)), (1, .int v1)] [] (z, m) (fM_digest_l204  n v1 m) := by
  intro n
  induction n with
  | zero =>
    intro v1 m
    rw [fM_digest_l204]
    exact xR_none
  | succ n ih =>
    intro v1 m
    rw [fM_digest_l204]
    refine xR_iln 204 1 dM_digest_204 rfl rfl ?_
    refine xR_bp 205 (6 : Int32) dM_digest_205 (by decide) ?_
    refine xR_aln 207 0 dM_digest_207 rfl rfl ?_
    refine xR_getf 208 xcf7 0 85 (by decide) (by decide) rfl (v := .ref (xa G 86)) rfl fl_RX9_7 dM_digest_208 ?_
    refine xR_bp 211 (92 : Int32) dM_digest_211 (by decide) ?_
    refine xR_iald 213 86 (by decide) rfl dM_digest_213 ?_
    refine xR_imul 214 dM_digest_214 ?_
    refine xR_icge 215 238 dM_digest_215 (by decide) ?_ ?_
    · refine xR_aln 238 0 dM_digest_238 rfl rfl ?_
      refine xR_aln 239 0 dM_digest_239 rfl rfl ?_
      refine xR_getf 240 xcf7 4 85 (by decide) (by decide) rfl (v := .long (m.2 0)) rfl fl_RX9_20 dM_digest_240 ?_
      refine xR_callVvm 243 cv_M_mix ml_RX9_280 ⟨Nat.le_of_ble_eq_true rfl, Nat.le_of_ble_eq_true rfl⟩ xcf7 rfl 85 (by decide) rfl [.long (m.2 0)] rfl rfl (Nat.le_of_ble_eq_true rfl) dM_digest_243 (kM_mix G z m (m.2 0)) (fun r243 => ?_)
      refine xR_aln 246 0 dM_digest_246 rfl rfl ?_
      refine xR_aln 247 0 dM_digest_247 rfl rfl ?_
      refine xR_getf 248 xcf7 5 85 (by decide) (by decide) rfl (v := .long (r243.2 1)) rfl fl_RX9_24 dM_digest_248 ?_
      refine xR_callVvm 251 cv_M_mix ml_RX9_280 ⟨Nat.le_of_ble_eq_true rfl, Nat.le_of_ble_eq_true rfl⟩ xcf7 rfl 85 (by decide) rfl [.long (r243.2 1)] rfl rfl (Nat.le_of_ble_eq_true rfl) dM_digest_251 (kM_mix G z r243 (r243.2 1)) (fun r251 => ?_)
      refine xR_aln 254 0 dM_digest_254 rfl rfl ?_
      refine xR_getf 255 xcf7 12 85 (by decide) (by decide) rfl (v := .long (r251.2 2)) rfl fl_RX9_275 dM_digest_255 ?_
      exact xR_lret 258 rfl rfl dM_digest_258
    · refine xR_aln 218 0 dM_digest_218 rfl rfl ?_
      refine xR_aln 219 0 dM_digest_219 rfl rfl ?_
      refine xR_getf 220 xcf7 0 85 (by decide) (by decide) rfl (v := .ref (xa G 86)) rfl fl_RX9_7 dM_digest_220 ?_
      refine xR_bp 223 (93 : Int32) dM_digest_223 (by decide) ?_
      refine xR_iln 225 1 dM_digest_225 rfl rfl ?_
      refine xR_iadd 226 dM_digest_226 ?_
      refine xR_iald 227 86 (by decide) rfl dM_digest_227 ?_
      refine xR_i2l 228 dM_digest_228 ?_
      refine xR_callVvm 229 cv_M_mix ml_RX9_280 ⟨Nat.le_of_ble_eq_true rfl, Nat.le_of_ble_eq_true rfl⟩ xcf7 rfl 85 (by decide) rfl [.long (((m.1 0 ((93 : Int32) + v1).toNatClampNeg)).toInt64)] rfl rfl (Nat.le_of_ble_eq_true rfl) dM_digest_229 (kM_mix G z m (((m.1 0 ((93 : Int32) + v1).toNatClampNeg)).toInt64)) (fun r229 => ?_)
      refine xR_iinc 232 1 (v1 + 1) ([(1, .int (v1 + 1)), (0, .ref (xa G 85))]) dM_digest_232 rfl rfl (by decide) rfl ?_
      refine xR_goto 235 204 dM_digest_235 (by decide) ?_
      exact xR_sub [1, 0] rfl (ih (v1 + 1) r229)
set_option maxRecDepth 100000 in
set_option maxHeartbeats 4000000 in
theorem kM_digest_l169 (G : xG)   (z : xM)    : ∀ (n : Nat) (v1 : Int32) (m : xM), xR G yyM_digest (emlm z) 169 [(0, .ref (xa G 85)), (1, .int v1)] [] (z, m) (fM_digest_l169  n v1 m) := by
  intro n
  induction n with
  | zero =>
    intro v1 m
    rw [fM_digest_l169]
    exact xR_none
  | succ n ih =>
    intro v1 m
    rw [fM_digest_l169]
    refine xR_iln 169 1 dM_digest_169 rfl rfl ?_
    refine xR_ic 170 (5 : Int32) dM_digest_170 (by decide) ?_
    refine xR_aln 171 0 dM_digest_171 rfl rfl ?_
    refine xR_getf 172 xcf7 0 85 (by decide) (by decide) rfl (v := .ref (xa G 86)) rfl fl_RX9_7 dM_digest_172 ?_
    refine xR_bp 175 (61 : Int32) dM_digest_175 (by decide) ?_
    refine xR_iald 177 86 (by decide) rfl dM_digest_177 ?_
    refine xR_imul 178 dM_digest_178 ?_
    refine xR_icge 179 202 dM_digest_179 (by decide) ?_ ?_
    · refine xR_ic 202 (0 : Int32) dM_digest_202 (by decide) ?_
      refine xR_isn 203 ([(1, .int (0 : Int32)), (0, .ref (xa G 85))]) dM_digest_203 rfl (by decide) rfl ?_
      exact xR_sub [1, 0] rfl (kM_digest_l204 G z xfu (0 : Int32) m)
    · refine xR_aln 182 0 dM_digest_182 rfl rfl ?_
      refine xR_aln 183 0 dM_digest_183 rfl rfl ?_
      refine xR_getf 184 xcf7 0 85 (by decide) (by decide) rfl (v := .ref (xa G 86)) rfl fl_RX9_7 dM_digest_184 ?_
      refine xR_bp 187 (62 : Int32) dM_digest_187 (by decide) ?_
      refine xR_iln 189 1 dM_digest_189 rfl rfl ?_
      refine xR_iadd 190 dM_digest_190 ?_
      refine xR_iald 191 86 (by decide) rfl dM_digest_191 ?_
      refine xR_i2l 192 dM_digest_192 ?_
      refine xR_callVvm 193 cv_M_mix ml_RX9_280 ⟨Nat.le_of_ble_eq_true rfl, Nat.le_of_ble_eq_true rfl⟩ xcf7 rfl 85 (by decide) rfl [.long (((m.1 0 ((62 : Int32) + v1).toNatClampNeg)).toInt64)] rfl rfl (Nat.le_of_ble_eq_true rfl) dM_digest_193 (kM_mix G z m (((m.1 0 ((62 : Int32) + v1).toNatClampNeg)).toInt64)) (fun r193 => ?_)
      refine xR_iinc 196 1 (v1 + 1) ([(1, .int (v1 + 1)), (0, .ref (xa G 85))]) dM_digest_196 rfl rfl (by decide) rfl ?_
      refine xR_goto 199 169 dM_digest_199 (by decide) ?_
      exact xR_sub [1, 0] rfl (ih (v1 + 1) r193)
set_option maxRecDepth 100000 in
set_option maxHeartbeats 4000000 in
theorem kM_digest_l134 (G : xG)   (z : xM)    : ∀ (n : Nat) (v1 : Int32) (m : xM), xR G yyM_digest (emlm z) 134 [(0, .ref (xa G 85)), (1, .int v1)] [] (z, m) (fM_digest_l134  n v1 m) := by
  intro n
  induction n with
  | zero =>
    intro v1 m
    rw [fM_digest_l134]
    exact xR_none
  | succ n ih =>
    intro v1 m
    rw [fM_digest_l134]
    refine xR_iln 134 1 dM_digest_134 rfl rfl ?_
    refine xR_ic 135 (2 : Int32) dM_digest_135 (by decide) ?_
    refine xR_aln 136 0 dM_digest_136 rfl rfl ?_
    refine xR_getf 137 xcf7 0 85 (by decide) (by decide) rfl (v := .ref (xa G 86)) rfl fl_RX9_7 dM_digest_137 ?_
    refine xR_bp 140 (48 : Int32) dM_digest_140 (by decide) ?_
    refine xR_iald 142 86 (by decide) rfl dM_digest_142 ?_
    refine xR_imul 143 dM_digest_143 ?_
    refine xR_icge 144 167 dM_digest_144 (by decide) ?_ ?_
    · refine xR_ic 167 (0 : Int32) dM_digest_167 (by decide) ?_
      refine xR_isn 168 ([(1, .int (0 : Int32)), (0, .ref (xa G 85))]) dM_digest_168 rfl (by decide) rfl ?_
      exact xR_sub [1, 0] rfl (kM_digest_l169 G z xfu (0 : Int32) m)
    · refine xR_aln 147 0 dM_digest_147 rfl rfl ?_
      refine xR_aln 148 0 dM_digest_148 rfl rfl ?_
      refine xR_getf 149 xcf7 0 85 (by decide) (by decide) rfl (v := .ref (xa G 86)) rfl fl_RX9_7 dM_digest_149 ?_
      refine xR_bp 152 (49 : Int32) dM_digest_152 (by decide) ?_
      refine xR_iln 154 1 dM_digest_154 rfl rfl ?_
      refine xR_iadd 155 dM_digest_155 ?_
      refine xR_iald 156 86 (by decide) rfl dM_digest_156 ?_
      refine xR_i2l 157 dM_digest_157 ?_
      refine xR_callVvm 158 cv_M_mix ml_RX9_280 ⟨Nat.le_of_ble_eq_true rfl, Nat.le_of_ble_eq_true rfl⟩ xcf7 rfl 85 (by decide) rfl [.long (((m.1 0 ((49 : Int32) + v1).toNatClampNeg)).toInt64)] rfl rfl (Nat.le_of_ble_eq_true rfl) dM_digest_158 (kM_mix G z m (((m.1 0 ((49 : Int32) + v1).toNatClampNeg)).toInt64)) (fun r158 => ?_)
      refine xR_iinc 161 1 (v1 + 1) ([(1, .int (v1 + 1)), (0, .ref (xa G 85))]) dM_digest_161 rfl rfl (by decide) rfl ?_
      refine xR_goto 164 134 dM_digest_164 (by decide) ?_
      exact xR_sub [1, 0] rfl (ih (v1 + 1) r158)
set_option maxRecDepth 100000 in
set_option maxHeartbeats 4000000 in
theorem kM_digest_l102 (G : xG)   (z : xM)    : ∀ (n : Nat) (v1 : Int32) (m : xM), xR G yyM_digest (emlm z) 102 [(0, .ref (xa G 85)), (1, .int v1)] [] (z, m) (fM_digest_l102  n v1 m) := by
  intro n
  induction n with
  | zero =>
    intro v1 m
    rw [fM_digest_l102]
    exact xR_none
  | succ n ih =>
    intro v1 m
    rw [fM_digest_l102]
    refine xR_iln 102 1 dM_digest_102 rfl rfl ?_
    refine xR_aln 103 0 dM_digest_103 rfl rfl ?_
    refine xR_getf 104 xcf7 0 85 (by decide) (by decide) rfl (v := .ref (xa G 86)) rfl fl_RX9_7 dM_digest_104 ?_
    refine xR_ic 107 (1 : Int32) dM_digest_107 (by decide) ?_
    refine xR_iald 108 86 (by decide) rfl dM_digest_108 ?_
    refine xR_icge 109 132 dM_digest_109 (by decide) ?_ ?_
    · refine xR_ic 132 (0 : Int32) dM_digest_132 (by decide) ?_
      refine xR_isn 133 ([(1, .int (0 : Int32)), (0, .ref (xa G 85))]) dM_digest_133 rfl (by decide) rfl ?_
      exact xR_sub [1, 0] rfl (kM_digest_l134 G z xfu (0 : Int32) m)
    · refine xR_aln 112 0 dM_digest_112 rfl rfl ?_
      refine xR_aln 113 0 dM_digest_113 rfl rfl ?_
      refine xR_getf 114 xcf7 0 85 (by decide) (by decide) rfl (v := .ref (xa G 86)) rfl fl_RX9_7 dM_digest_114 ?_
      refine xR_bp 117 (44 : Int32) dM_digest_117 (by decide) ?_
      refine xR_iln 119 1 dM_digest_119 rfl rfl ?_
      refine xR_iadd 120 dM_digest_120 ?_
      refine xR_iald 121 86 (by decide) rfl dM_digest_121 ?_
      refine xR_i2l 122 dM_digest_122 ?_
      refine xR_callVvm 123 cv_M_mix ml_RX9_280 ⟨Nat.le_of_ble_eq_true rfl, Nat.le_of_ble_eq_true rfl⟩ xcf7 rfl 85 (by decide) rfl [.long (((m.1 0 ((44 : Int32) + v1).toNatClampNeg)).toInt64)] rfl rfl (Nat.le_of_ble_eq_true rfl) dM_digest_123 (kM_mix G z m (((m.1 0 ((44 : Int32) + v1).toNatClampNeg)).toInt64)) (fun r123 => ?_)
      refine xR_iinc 126 1 (v1 + 1) ([(1, .int (v1 + 1)), (0, .ref (xa G 85))]) dM_digest_126 rfl rfl (by decide) rfl ?_
      refine xR_goto 129 102 dM_digest_129 (by decide) ?_
      exact xR_sub [1, 0] rfl (ih (v1 + 1) r123)
set_option maxRecDepth 100000 in
set_option maxHeartbeats 4000000 in
theorem kM_digest_l71 (G : xG)   (z : xM)  (k59 : Int32 → xM → Option (Int64 × xM)) (hk59 : ∀ (v1 : Int32) (m : xM), xR G yyM_digest (emlm z) 59 [(0, .ref (xa G 85)), (1, .int v1)] [] (z, m) (k59 v1 m)) : ∀ (n : Nat) (v1 : Int32) (v2 : Int32) (m : xM), xR G yyM_digest (emlm z) 71 [(0, .ref (xa G 85)), (1, .int v1), (2, .int v2)] [] (z, m) (fM_digest_l71 k59 n v1 v2 m) := by
  intro n
  induction n with
  | zero =>
    intro v1 v2 m
    rw [fM_digest_l71]
    exact xR_none
  | succ n ih =>
    intro v1 v2 m
    rw [fM_digest_l71]
    refine xR_iln 71 2 dM_digest_71 rfl rfl ?_
    refine xR_bp 72 (6 : Int32) dM_digest_72 (by decide) ?_
    refine xR_icge 74 94 dM_digest_74 (by decide) ?_ ?_
    · refine xR_iinc 94 1 (v1 + 1) ([(1, .int (v1 + 1)), (0, .ref (xa G 85)), (2, .int v2)]) dM_digest_94 rfl rfl (by decide) rfl ?_
      refine xR_goto 97 59 dM_digest_97 (by decide) ?_
      exact xR_sub [1, 0] rfl (hk59 (v1 + 1) m)
    · refine xR_aln 77 0 dM_digest_77 rfl rfl ?_
      refine xR_aln 78 0 dM_digest_78 rfl rfl ?_
      refine xR_iln 79 1 dM_digest_79 rfl rfl ?_
      refine xR_iln 80 2 dM_digest_80 rfl rfl ?_
      refine xR_callVi 81 cv_M_ofBoard ml_RX9_186 ⟨Nat.le_of_ble_eq_true rfl, Nat.le_of_ble_eq_true rfl⟩ xcf7 rfl 85 (by decide) rfl [.int v1, .int v2] rfl rfl (Nat.le_of_ble_eq_true rfl) dM_digest_81 (kM_ofBoard G z m v1 v2) (fun r81 => ?_)
      refine xR_i2l 84 dM_digest_84 ?_
      refine xR_callVvm 85 cv_M_mix ml_RX9_280 ⟨Nat.le_of_ble_eq_true rfl, Nat.le_of_ble_eq_true rfl⟩ xcf7 rfl 85 (by decide) rfl [.long ((r81).toInt64)] rfl rfl (Nat.le_of_ble_eq_true rfl) dM_digest_85 (kM_mix G z m ((r81).toInt64)) (fun r85 => ?_)
      refine xR_iinc 88 2 (v2 + 1) ([(2, .int (v2 + 1)), (0, .ref (xa G 85)), (1, .int v1)]) dM_digest_88 rfl rfl (by decide) rfl ?_
      refine xR_goto 91 71 dM_digest_91 (by decide) ?_
      exact xR_sub [1, 2, 0] rfl (ih v1 (v2 + 1) r85)
set_option maxRecDepth 100000 in
set_option maxHeartbeats 4000000 in
theorem kM_digest_l59 (G : xG)   (z : xM)    : ∀ (n : Nat) (v1 : Int32) (m : xM), xR G yyM_digest (emlm z) 59 [(0, .ref (xa G 85)), (1, .int v1)] [] (z, m) (fM_digest_l59  n v1 m) := by
  intro n
  induction n with
  | zero =>
    intro v1 m
    rw [fM_digest_l59]
    exact xR_none
  | succ n ih =>
    intro v1 m
    rw [fM_digest_l59]
    refine xR_iln 59 1 dM_digest_59 rfl rfl ?_
    refine xR_aln 60 0 dM_digest_60 rfl rfl ?_
    refine xR_getf 61 xcf7 0 85 (by decide) (by decide) rfl (v := .ref (xa G 86)) rfl fl_RX9_7 dM_digest_61 ?_
    refine xR_ic 64 (0 : Int32) dM_digest_64 (by decide) ?_
    refine xR_iald 65 86 (by decide) rfl dM_digest_65 ?_
    refine xR_icge 66 100 dM_digest_66 (by decide) ?_ ?_
    · refine xR_ic 100 (0 : Int32) dM_digest_100 (by decide) ?_
      refine xR_isn 101 ([(1, .int (0 : Int32)), (0, .ref (xa G 85))]) dM_digest_101 rfl (by decide) rfl ?_
      exact xR_sub [1, 0] rfl (kM_digest_l102 G z xfu (0 : Int32) m)
    · refine xR_ic 69 (0 : Int32) dM_digest_69 (by decide) ?_
      refine xR_isn 70 ([(2, .int (0 : Int32)), (0, .ref (xa G 85)), (1, .int v1)]) dM_digest_70 rfl (by decide) rfl ?_
      exact xR_sub [1, 2, 0] rfl (kM_digest_l71 G z (fM_digest_l59 n) ih xfu v1 (0 : Int32) m)
set_option maxRecDepth 100000 in
set_option maxHeartbeats 4000000 in
theorem kM_digest_l33 (G : xG)   (z : xM)    : ∀ (n : Nat) (v1 : Int32) (m : xM), xR G yyM_digest (emlm z) 33 [(0, .ref (xa G 85)), (1, .int v1)] [] (z, m) (fM_digest_l33  n v1 m) := by
  intro n
  induction n with
  | zero =>
    intro v1 m
    rw [fM_digest_l33]
    exact xR_none
  | succ n ih =>
    intro v1 m
    rw [fM_digest_l33]
    refine xR_iln 33 1 dM_digest_33 rfl rfl ?_
    refine xR_ic 34 (5 : Int32) dM_digest_34 (by decide) ?_
    refine xR_icge 35 57 dM_digest_35 (by decide) ?_ ?_
    · refine xR_ic 57 (0 : Int32) dM_digest_57 (by decide) ?_
      refine xR_isn 58 ([(1, .int (0 : Int32)), (0, .ref (xa G 85))]) dM_digest_58 rfl (by decide) rfl ?_
      exact xR_sub [1, 0] rfl (kM_digest_l59 G z xfu (0 : Int32) m)
    · refine xR_aln 38 0 dM_digest_38 rfl rfl ?_
      refine xR_aln 39 0 dM_digest_39 rfl rfl ?_
      refine xR_getf 40 xcf7 0 85 (by decide) (by decide) rfl (v := .ref (xa G 86)) rfl fl_RX9_7 dM_digest_40 ?_
      refine xR_ic 43 (3 : Int32) dM_digest_43 (by decide) ?_
      refine xR_iln 44 1 dM_digest_44 rfl rfl ?_
      refine xR_iadd 45 dM_digest_45 ?_
      refine xR_iald 46 86 (by decide) rfl dM_digest_46 ?_
      refine xR_i2l 47 dM_digest_47 ?_
      refine xR_callVvm 48 cv_M_mix ml_RX9_280 ⟨Nat.le_of_ble_eq_true rfl, Nat.le_of_ble_eq_true rfl⟩ xcf7 rfl 85 (by decide) rfl [.long (((m.1 0 ((3 : Int32) + v1).toNatClampNeg)).toInt64)] rfl rfl (Nat.le_of_ble_eq_true rfl) dM_digest_48 (kM_mix G z m (((m.1 0 ((3 : Int32) + v1).toNatClampNeg)).toInt64)) (fun r48 => ?_)
      refine xR_iinc 51 1 (v1 + 1) ([(1, .int (v1 + 1)), (0, .ref (xa G 85))]) dM_digest_51 rfl rfl (by decide) rfl ?_
      refine xR_goto 54 33 dM_digest_54 (by decide) ?_
      exact xR_sub [1, 0] rfl (ih (v1 + 1) r48)
set_option maxRecDepth 100000 in
set_option maxHeartbeats 4000000 in
theorem kM_digest_l9 (G : xG)   (z : xM)    : ∀ (n : Nat) (v1 : Int32) (m : xM), xR G yyM_digest (emlm z) 9 [(0, .ref (xa G 85)), (1, .int v1)] [] (z, m) (fM_digest_l9  n v1 m) := by
  intro n
  induction n with
  | zero =>
    intro v1 m
    rw [fM_digest_l9]
    exact xR_none
  | succ n ih =>
    intro v1 m
    rw [fM_digest_l9]
    refine xR_iln 9 1 dM_digest_9 rfl rfl ?_
    refine xR_bp 10 (11 : Int32) dM_digest_10 (by decide) ?_
    refine xR_icge 12 31 dM_digest_12 (by decide) ?_ ?_
    · refine xR_ic 31 (0 : Int32) dM_digest_31 (by decide) ?_
      refine xR_isn 32 ([(1, .int (0 : Int32)), (0, .ref (xa G 85))]) dM_digest_32 rfl (by decide) rfl ?_
      exact xR_sub [1, 0] rfl (kM_digest_l33 G z xfu (0 : Int32) m)
    · refine xR_aln 15 0 dM_digest_15 rfl rfl ?_
      refine xR_aln 16 0 dM_digest_16 rfl rfl ?_
      refine xR_iln 17 1 dM_digest_17 rfl rfl ?_
      refine xR_callVi 18 cv_M_countOf ml_RX9_270 ⟨Nat.le_of_ble_eq_true rfl, Nat.le_of_ble_eq_true rfl⟩ xcf7 rfl 85 (by decide) rfl [.int v1] rfl rfl (Nat.le_of_ble_eq_true rfl) dM_digest_18 (kM_countOf G z m v1) (fun r18 => ?_)
      refine xR_i2l 21 dM_digest_21 ?_
      refine xR_callVvm 22 cv_M_mix ml_RX9_280 ⟨Nat.le_of_ble_eq_true rfl, Nat.le_of_ble_eq_true rfl⟩ xcf7 rfl 85 (by decide) rfl [.long ((r18).toInt64)] rfl rfl (Nat.le_of_ble_eq_true rfl) dM_digest_22 (kM_mix G z m ((r18).toInt64)) (fun r22 => ?_)
      refine xR_iinc 25 1 (v1 + 1) ([(1, .int (v1 + 1)), (0, .ref (xa G 85))]) dM_digest_25 rfl rfl (by decide) rfl ?_
      refine xR_goto 28 9 dM_digest_28 (by decide) ?_
      exact xR_sub [1, 0] rfl (ih (v1 + 1) r22)
set_option maxRecDepth 100000 in
set_option maxHeartbeats 4000000 in
theorem kM_digest (G : xG)   (z : xM) (m : xM) : ∀ a, fM_digest  m = some a → xCt G yyM_digest [.ref (xa G 85)] (z, m) (some (.long a.1)) (z, a.2) := by
  refine xR_ct (em := (emlm z)) rfl (Nat.le_of_ble_eq_true rfl) ?_
  show xR G yyM_digest _ 0 [(0, .ref (xa G 85))] [] _ _
  unfold fM_digest
  refine xR_aln 0 0 dM_digest_0 rfl rfl ?_
  refine xR_ldc2 1 cl_RX9_278 dM_digest_1 ?_
  refine xR_putf 4 xcf7 12 85 (by decide) (by decide) rfl rfl rfl rfl (Nat.le_of_ble_eq_true rfl) (z, (xsel m 2 (1523 : Int64))) (xW_mlng (i := 2) rfl) fl_RX9_275 dM_digest_4 ?_
  refine xR_ic 7 (0 : Int32) dM_digest_7 (by decide) ?_
  refine xR_isn 8 ([(1, .int (0 : Int32)), (0, .ref (xa G 85))]) dM_digest_8 rfl (by decide) rfl ?_
  exact xR_sub [1, 0] rfl (kM_digest_l9 G z xfu (0 : Int32) (xsel m 2 (1523 : Int64)))
