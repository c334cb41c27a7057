/-! RULES: an instruction, a row over xR (written by gen_rules.py out of the kit's rows) -/
section XR
variable {ρ : Type} {G : xG} {Y : xY} {em : ρ → Option Value × xS} {lv : List (Nat × Value)} {st : List Value} {S : xS} {F : Option ρ}
theorem xR_ic (pc : Nat) {n : Int} (v : Int32) (hd : decode (xb Y) pc = .ok (.iconst n, 1)) (hv : Int32.ofInt n = v) (kk : xR G Y em (pc + 1) lv (.int v :: st) S F) : xR G Y em pc lv (st) S F := fun r hr p e R s m args below meth c H locs ls hF hP hS hl => lv_iconst hF.1 hF.2.1 hd hv (kk r hr p e R s m args below meth c H locs ls hF hP hS hl)
theorem xR_bp (pc : Nat) {n : Int} (v : Int32) (hd : decode (xb Y) pc = .ok (.bipush n, 2)) (hv : (Int8.ofInt n).toInt32 = v) (kk : xR G Y em (pc + 2) lv (.int v :: st) S F) : xR G Y em pc lv (st) S F := fun r hr p e R s m args below meth c H locs ls hF hP hS hl => lv_bipush hF.1 hF.2.1 hd hv (kk r hr p e R s m args below meth c H locs ls hF hP hS hl)
theorem xR_sp (pc : Nat) {n : Int} (v : Int32) (hd : decode (xb Y) pc = .ok (.sipush n, 3)) (hv : (Int16.ofInt n).toInt32 = v) (kk : xR G Y em (pc + 3) lv (.int v :: st) S F) : xR G Y em pc lv (st) S F := fun r hr p e R s m args below meth c H locs ls hF hP hS hl => lv_sipush hF.1 hF.2.1 hd hv (kk r hr p e R s m args below meth c H locs ls hF hP hS hl)
theorem xR_lc (pc : Nat) {n : Fin 2} (v : Int64) (hd : decode (xb Y) pc = .ok (.lconst n, 1)) (hv : Int64.ofNat (n : Nat) = v) (kk : xR G Y em (pc + 1) lv (.long v :: st) S F) : xR G Y em pc lv (st) S F := fun r hr p e R s m args below meth c H locs ls hF hP hS hl => lv_lconst hF.1 hF.2.1 hd hv (kk r hr p e R s m args below meth c H locs ls hF hP hS hl)
theorem xR_iln (pc : Nat) {k : Fin 4} {i : Nat} {x : Int32} (j : Nat) (hd : decode (xb Y) pc = .ok (.iload_n k, 1)) (hi : (k : Nat) = i) (hj : lv[j]? = some (i, .int x)) (kk : xR G Y em (pc + 1) lv (.int x :: st) S F) : xR G Y em pc lv (st) S F := fun r hr p e R s m args below meth c H locs ls hF hP hS hl => lv_iload_n hF.1 hF.2.1 hd hi (lv_at hl j hj) (kk r hr p e R s m args below meth c H locs ls hF hP hS hl)
theorem xR_il (pc : Nat) {i : Nat} {x : Int32} (j : Nat) (hd : decode (xb Y) pc = .ok (.iload i, 2)) (hj : lv[j]? = some (i, .int x)) (kk : xR G Y em (pc + 2) lv (.int x :: st) S F) : xR G Y em pc lv (st) S F := fun r hr p e R s m args below meth c H locs ls hF hP hS hl => lv_iload hF.1 hF.2.1 hd (lv_at hl j hj) (kk r hr p e R s m args below meth c H locs ls hF hP hS hl)
theorem xR_lln (pc : Nat) {k : Fin 4} {i : Nat} {x : Int64} (j : Nat) (hd : decode (xb Y) pc = .ok (.lload_n k, 1)) (hi : (k : Nat) = i) (hj : lv[j]? = some (i, .long x)) (kk : xR G Y em (pc + 1) lv (.long x :: st) S F) : xR G Y em pc lv (st) S F := fun r hr p e R s m args below meth c H locs ls hF hP hS hl => lv_lload_n hF.1 hF.2.1 hd hi (lv_at hl j hj) (kk r hr p e R s m args below meth c H locs ls hF hP hS hl)
theorem xR_ll (pc : Nat) {i : Nat} {x : Int64} (j : Nat) (hd : decode (xb Y) pc = .ok (.lload i, 2)) (hj : lv[j]? = some (i, .long x)) (kk : xR G Y em (pc + 2) lv (.long x :: st) S F) : xR G Y em pc lv (st) S F := fun r hr p e R s m args below meth c H locs ls hF hP hS hl => lv_lload hF.1 hF.2.1 hd (lv_at hl j hj) (kk r hr p e R s m args below meth c H locs ls hF hP hS hl)
theorem xR_aln (pc : Nat) {k : Fin 4} {i : Nat} {x : Nat} (j : Nat) (hd : decode (xb Y) pc = .ok (.aload_n k, 1)) (hi : (k : Nat) = i) (hj : lv[j]? = some (i, .ref x)) (kk : xR G Y em (pc + 1) lv (.ref x :: st) S F) : xR G Y em pc lv (st) S F := fun r hr p e R s m args below meth c H locs ls hF hP hS hl => lv_aload_n hF.1 hF.2.1 hd hi (lv_at hl j hj) (kk r hr p e R s m args below meth c H locs ls hF hP hS hl)
theorem xR_al (pc : Nat) {i : Nat} {x : Nat} (j : Nat) (hd : decode (xb Y) pc = .ok (.aload i, 2)) (hj : lv[j]? = some (i, .ref x)) (kk : xR G Y em (pc + 2) lv (.ref x :: st) S F) : xR G Y em pc lv (st) S F := fun r hr p e R s m args below meth c H locs ls hF hP hS hl => lv_aload hF.1 hF.2.1 hd (lv_at hl j hj) (kk r hr p e R s m args below meth c H locs ls hF hP hS hl)
theorem xR_isn (pc : Nat) {k : Fin 4} {i : Nat} {x : Int32} (lv' : List (Nat × Value)) (hd : decode (xb Y) pc = .ok (.istore_n k, 1)) (hi : (k : Nat) = i) (hn : i < xL Y) (hv : (i, Value.int x) :: lv.filter (fun q => !(q.1 == i) && !(q.1 + 1 == i && q.2.category == 2)) = lv') (kk : xR G Y em (pc + 1) lv' st S F) : xR G Y em pc lv (.int x :: st) S F := fun r hr p e R s m args below meth c H locs ls hF hP hS hl => lv_istore_n hF.1 hF.2.1 hd hi hl hn hv (fun ls hl => kk r hr p e R s m args below meth c H locs ls hF hP hS hl)
theorem xR_is (pc : Nat) {i : Nat} {x : Int32} (lv' : List (Nat × Value)) (hd : decode (xb Y) pc = .ok (.istore i, 2)) (hn : i < xL Y) (hv : (i, Value.int x) :: lv.filter (fun q => !(q.1 == i) && !(q.1 + 1 == i && q.2.category == 2)) = lv') (kk : xR G Y em (pc + 2) lv' st S F) : xR G Y em pc lv (.int x :: st) S F := fun r hr p e R s m args below meth c H locs ls hF hP hS hl => lv_istore hF.1 hF.2.1 hd hl hn hv (fun ls hl => kk r hr p e R s m args below meth c H locs ls hF hP hS hl)
theorem xR_lsn (pc : Nat) {k : Fin 4} {i : Nat} {x : Int64} (lv' : List (Nat × Value)) (hd : decode (xb Y) pc = .ok (.lstore_n k, 1)) (hi : (k : Nat) = i) (hn : i + 1 < xL Y) (hv : (i, Value.long x) :: lv.filter (fun q => !(q.1 == i) && (!(q.1 == i + 1) && !(q.1 + 1 == i && q.2.category == 2))) = lv') (kk : xR G Y em (pc + 1) lv' st S F) : xR G Y em pc lv (.long x :: st) S F := fun r hr p e R s m args below meth c H locs ls hF hP hS hl => lv_lstore_n hF.1 hF.2.1 hd hi hl hn hv (fun ls hl => kk r hr p e R s m args below meth c H locs ls hF hP hS hl)
theorem xR_ls (pc : Nat) {i : Nat} {x : Int64} (lv' : List (Nat × Value)) (hd : decode (xb Y) pc = .ok (.lstore i, 2)) (hn : i + 1 < xL Y) (hv : (i, Value.long x) :: lv.filter (fun q => !(q.1 == i) && (!(q.1 == i + 1) && !(q.1 + 1 == i && q.2.category == 2))) = lv') (kk : xR G Y em (pc + 2) lv' st S F) : xR G Y em pc lv (.long x :: st) S F := fun r hr p e R s m args below meth c H locs ls hF hP hS hl => lv_lstore hF.1 hF.2.1 hd hl hn hv (fun ls hl => kk r hr p e R s m args below meth c H locs ls hF hP hS hl)
theorem xR_asn (pc : Nat) {k : Fin 4} {i : Nat} {x : Nat} (lv' : List (Nat × Value)) (hd : decode (xb Y) pc = .ok (.astore_n k, 1)) (hi : (k : Nat) = i) (hn : i < xL Y) (hv : (i, Value.ref x) :: lv.filter (fun q => !(q.1 == i) && !(q.1 + 1 == i && q.2.category == 2)) = lv') (kk : xR G Y em (pc + 1) lv' st S F) : xR G Y em pc lv (.ref x :: st) S F := fun r hr p e R s m args below meth c H locs ls hF hP hS hl => lv_astore_n hF.1 hF.2.1 hd hi hl hn hv (fun ls hl => kk r hr p e R s m args below meth c H locs ls hF hP hS hl)
theorem xR_as (pc : Nat) {i : Nat} {x : Nat} (lv' : List (Nat × Value)) (hd : decode (xb Y) pc = .ok (.astore i, 2)) (hn : i < xL Y) (hv : (i, Value.ref x) :: lv.filter (fun q => !(q.1 == i) && !(q.1 + 1 == i && q.2.category == 2)) = lv') (kk : xR G Y em (pc + 2) lv' st S F) : xR G Y em pc lv (.ref x :: st) S F := fun r hr p e R s m args below meth c H locs ls hF hP hS hl => lv_astore hF.1 hF.2.1 hd hl hn hv (fun ls hl => kk r hr p e R s m args below meth c H locs ls hF hP hS hl)
theorem xR_iinc (pc : Nat) {i : Nat} {n : Int} {x : Int32} (j : Nat) (v : Int32) (lv' : List (Nat × Value)) (hd : decode (xb Y) pc = .ok (.iinc i n, 3)) (hj : lv[j]? = some (i, .int x)) (hx : x + Int32.ofInt n = v) (hn : i < xL Y) (hv : (i, Value.int v) :: lv.filter (fun q => !(q.1 == i) && !(q.1 + 1 == i && q.2.category == 2)) = lv') (kk : xR G Y em (pc + 3) lv' st S F) : xR G Y em pc lv st S F := fun r hr p e R s m args below meth c H locs ls hF hP hS hl => lv_iinc hF.1 hF.2.1 hd hl hj hx hn hv (fun ls hl => kk r hr p e R s m args below meth c H locs ls hF hP hS hl)
theorem xR_iadd (pc : Nat) {x y : Int32} (hd : decode (xb Y) pc = .ok (.iadd, 1))  (kk : xR G Y em (pc + 1) lv (.int (x + y) :: st) S F) : xR G Y em pc lv (.int y :: .int x :: st) S F := fun r hr p e R s m args below meth c H locs ls hF hP hS hl => lv_iadd hF.1 hF.2.1 hd  (kk r hr p e R s m args below meth c H locs ls hF hP hS hl)
theorem xR_isub (pc : Nat) {x y : Int32} (hd : decode (xb Y) pc = .ok (.isub, 1))  (kk : xR G Y em (pc + 1) lv (.int (x - y) :: st) S F) : xR G Y em pc lv (.int y :: .int x :: st) S F := fun r hr p e R s m args below meth c H locs ls hF hP hS hl => lv_isub hF.1 hF.2.1 hd  (kk r hr p e R s m args below meth c H locs ls hF hP hS hl)
theorem xR_imul (pc : Nat) {x y : Int32} (hd : decode (xb Y) pc = .ok (.imul, 1))  (kk : xR G Y em (pc + 1) lv (.int (x * y) :: st) S F) : xR G Y em pc lv (.int y :: .int x :: st) S F := fun r hr p e R s m args below meth c H locs ls hF hP hS hl => lv_imul hF.1 hF.2.1 hd  (kk r hr p e R s m args below meth c H locs ls hF hP hS hl)
theorem xR_iand (pc : Nat) {x y : Int32} (hd : decode (xb Y) pc = .ok (.iand, 1))  (kk : xR G Y em (pc + 1) lv (.int (x &&& y) :: st) S F) : xR G Y em pc lv (.int y :: .int x :: st) S F := fun r hr p e R s m args below meth c H locs ls hF hP hS hl => lv_iand hF.1 hF.2.1 hd  (kk r hr p e R s m args below meth c H locs ls hF hP hS hl)
theorem xR_ior (pc : Nat) {x y : Int32} (hd : decode (xb Y) pc = .ok (.ior, 1))  (kk : xR G Y em (pc + 1) lv (.int (x ||| y) :: st) S F) : xR G Y em pc lv (.int y :: .int x :: st) S F := fun r hr p e R s m args below meth c H locs ls hF hP hS hl => lv_ior hF.1 hF.2.1 hd  (kk r hr p e R s m args below meth c H locs ls hF hP hS hl)
theorem xR_ixor (pc : Nat) {x y : Int32} (hd : decode (xb Y) pc = .ok (.ixor, 1))  (kk : xR G Y em (pc + 1) lv (.int (x ^^^ y) :: st) S F) : xR G Y em pc lv (.int y :: .int x :: st) S F := fun r hr p e R s m args below meth c H locs ls hF hP hS hl => lv_ixor hF.1 hF.2.1 hd  (kk r hr p e R s m args below meth c H locs ls hF hP hS hl)
theorem xR_ishl (pc : Nat) {x y : Int32} (hd : decode (xb Y) pc = .ok (.ishl, 1))  (kk : xR G Y em (pc + 1) lv (.int (x <<< (y &&& 31)) :: st) S F) : xR G Y em pc lv (.int y :: .int x :: st) S F := fun r hr p e R s m args below meth c H locs ls hF hP hS hl => lv_ishl hF.1 hF.2.1 hd  (kk r hr p e R s m args below meth c H locs ls hF hP hS hl)
theorem xR_ishr (pc : Nat) {x y : Int32} (hd : decode (xb Y) pc = .ok (.ishr, 1))  (kk : xR G Y em (pc + 1) lv (.int (x >>> (y &&& 31)) :: st) S F) : xR G Y em pc lv (.int y :: .int x :: st) S F := fun r hr p e R s m args below meth c H locs ls hF hP hS hl => lv_ishr hF.1 hF.2.1 hd  (kk r hr p e R s m args below meth c H locs ls hF hP hS hl)
theorem xR_iushr (pc : Nat) {x y : Int32} (hd : decode (xb Y) pc = .ok (.iushr, 1))  (kk : xR G Y em (pc + 1) lv (.int (x.toUInt32 >>> (y.toUInt32 &&& Int32.toUInt32 31)).toInt32 :: st) S F) : xR G Y em pc lv (.int y :: .int x :: st) S F := fun r hr p e R s m args below meth c H locs ls hF hP hS hl => lv_iushr hF.1 hF.2.1 hd rfl (kk r hr p e R s m args below meth c H locs ls hF hP hS hl)
theorem xR_ineg (pc : Nat) {x : Int32} (hd : decode (xb Y) pc = .ok (.ineg, 1))  (kk : xR G Y em (pc + 1) lv (.int (-x) :: st) S F) : xR G Y em pc lv (.int x :: st) S F := fun r hr p e R s m args below meth c H locs ls hF hP hS hl => lv_ineg hF.1 hF.2.1 hd  (kk r hr p e R s m args below meth c H locs ls hF hP hS hl)
theorem xR_idiv (pc : Nat) {x y : Int32} (hd : decode (xb Y) pc = .ok (.idiv, 1)) (hne : ¬ y = 0) (kk : xR G Y em (pc + 1) lv (.int (x / y) :: st) S F) : xR G Y em pc lv (.int y :: .int x :: st) S F := fun r hr p e R s m args below meth c H locs ls hF hP hS hl => lv_idiv hF.1 hF.2.1 hd hne (kk r hr p e R s m args below meth c H locs ls hF hP hS hl)
theorem xR_irem (pc : Nat) {x y : Int32} (hd : decode (xb Y) pc = .ok (.irem, 1)) (hne : ¬ y = 0) (kk : xR G Y em (pc + 1) lv (.int (x - x / y * y) :: st) S F) : xR G Y em pc lv (.int y :: .int x :: st) S F := fun r hr p e R s m args below meth c H locs ls hF hP hS hl => lv_irem hF.1 hF.2.1 hd hne (kk r hr p e R s m args below meth c H locs ls hF hP hS hl)
theorem xR_ldiv (pc : Nat) {x y : Int64} (hd : decode (xb Y) pc = .ok (.ldiv, 1)) (hne : ¬ y = 0) (kk : xR G Y em (pc + 1) lv (.long (x / y) :: st) S F) : xR G Y em pc lv (.long y :: .long x :: st) S F := fun r hr p e R s m args below meth c H locs ls hF hP hS hl => lv_ldiv hF.1 hF.2.1 hd hne (kk r hr p e R s m args below meth c H locs ls hF hP hS hl)
theorem xR_lrem (pc : Nat) {x y : Int64} (hd : decode (xb Y) pc = .ok (.lrem, 1)) (hne : ¬ y = 0) (kk : xR G Y em (pc + 1) lv (.long (x - x / y * y) :: st) S F) : xR G Y em pc lv (.long y :: .long x :: st) S F := fun r hr p e R s m args below meth c H locs ls hF hP hS hl => lv_lrem hF.1 hF.2.1 hd hne (kk r hr p e R s m args below meth c H locs ls hF hP hS hl)
theorem xR_ladd (pc : Nat) {x y : Int64} (hd : decode (xb Y) pc = .ok (.ladd, 1))  (kk : xR G Y em (pc + 1) lv (.long (x + y) :: st) S F) : xR G Y em pc lv (.long y :: .long x :: st) S F := fun r hr p e R s m args below meth c H locs ls hF hP hS hl => lv_ladd hF.1 hF.2.1 hd  (kk r hr p e R s m args below meth c H locs ls hF hP hS hl)
theorem xR_lsub (pc : Nat) {x y : Int64} (hd : decode (xb Y) pc = .ok (.lsub, 1))  (kk : xR G Y em (pc + 1) lv (.long (x - y) :: st) S F) : xR G Y em pc lv (.long y :: .long x :: st) S F := fun r hr p e R s m args below meth c H locs ls hF hP hS hl => lv_lsub hF.1 hF.2.1 hd  (kk r hr p e R s m args below meth c H locs ls hF hP hS hl)
theorem xR_lmul (pc : Nat) {x y : Int64} (hd : decode (xb Y) pc = .ok (.lmul, 1))  (kk : xR G Y em (pc + 1) lv (.long (x * y) :: st) S F) : xR G Y em pc lv (.long y :: .long x :: st) S F := fun r hr p e R s m args below meth c H locs ls hF hP hS hl => lv_lmul hF.1 hF.2.1 hd  (kk r hr p e R s m args below meth c H locs ls hF hP hS hl)
theorem xR_i2l (pc : Nat) {x : Int32} (hd : decode (xb Y) pc = .ok (.i2l, 1))  (kk : xR G Y em (pc + 1) lv (.long x.toInt64 :: st) S F) : xR G Y em pc lv (.int x :: st) S F := fun r hr p e R s m args below meth c H locs ls hF hP hS hl => lv_i2l hF.1 hF.2.1 hd rfl (kk r hr p e R s m args below meth c H locs ls hF hP hS hl)
theorem xR_l2i (pc : Nat) {x : Int64} (hd : decode (xb Y) pc = .ok (.l2i, 1))  (kk : xR G Y em (pc + 1) lv (.int x.toInt32 :: st) S F) : xR G Y em pc lv (.long x :: st) S F := fun r hr p e R s m args below meth c H locs ls hF hP hS hl => lv_l2i hF.1 hF.2.1 hd rfl (kk r hr p e R s m args below meth c H locs ls hF hP hS hl)
theorem xR_i2c (pc : Nat) {x : Int32} (hd : decode (xb Y) pc = .ok (.i2c, 1))  (kk : xR G Y em (pc + 1) lv (.int (x.toUInt32 % 65536).toInt32 :: st) S F) : xR G Y em pc lv (.int x :: st) S F := fun r hr p e R s m args below meth c H locs ls hF hP hS hl => lv_i2c hF.1 hF.2.1 hd rfl (kk r hr p e R s m args below meth c H locs ls hF hP hS hl)
theorem xR_lcmp (pc : Nat) {x y : Int64} (hd : decode (xb Y) pc = .ok (.lcmp, 1))  (kk : xR G Y em (pc + 1) lv (.int (lg_cmp x y) :: st) S F) : xR G Y em pc lv (.long y :: .long x :: st) S F := fun r hr p e R s m args below meth c H locs ls hF hP hS hl => W.lcmp hF.1 hF.2.1 hd  (kk r hr p e R s m args below meth c H locs ls hF hP hS hl)
theorem xR_dup (pc : Nat) {v : Value} (hd : decode (xb Y) pc = .ok (.dup, 1)) (hv : v.category = 1) (kk : xR G Y em (pc + 1) lv (v :: v :: st) S F) : xR G Y em pc lv (v :: st) S F := fun r hr p e R s m args below meth c H locs ls hF hP hS hl => lv_dup hF.1 hF.2.1 hd hv (kk r hr p e R s m args below meth c H locs ls hF hP hS hl)
theorem xR_pop (pc : Nat) {v : Value} (hd : decode (xb Y) pc = .ok (.pop, 1)) (hv : v.category = 1) (kk : xR G Y em (pc + 1) lv (st) S F) : xR G Y em pc lv (v :: st) S F := fun r hr p e R s m args below meth c H locs ls hF hP hS hl => lv_pop hF.1 hF.2.1 hd hv (kk r hr p e R s m args below meth c H locs ls hF hP hS hl)
theorem xR_dup2 (pc : Nat) {v w : Value} (hd : decode (xb Y) pc = .ok (.dup2, 1)) (hv : v.category = 1) (hw : w.category = 1) (kk : xR G Y em (pc + 1) lv (v :: w :: v :: w :: st) S F) : xR G Y em pc lv (v :: w :: st) S F := fun r hr p e R s m args below meth c H locs ls hF hP hS hl => lv_dup2_11 hF.1 hF.2.1 hd hv hw (kk r hr p e R s m args below meth c H locs ls hF hP hS hl)
theorem xR_dup2l (pc : Nat) {v : Value} (hd : decode (xb Y) pc = .ok (.dup2, 1)) (hv : v.category = 2) (kk : xR G Y em (pc + 1) lv (v :: v :: st) S F) : xR G Y em pc lv (v :: st) S F := fun r hr p e R s m args below meth c H locs ls hF hP hS hl => lv_dup2_2 hF.1 hF.2.1 hd hv (kk r hr p e R s m args below meth c H locs ls hF hP hS hl)
theorem xR_dup_x1 (pc : Nat) {v w : Value} (hd : decode (xb Y) pc = .ok (.dup_x1, 1)) (hv : v.category = 1) (hw : w.category = 1) (kk : xR G Y em (pc + 1) lv (v :: w :: v :: st) S F) : xR G Y em pc lv (v :: w :: st) S F := fun r hr p e R s m args below meth c H locs ls hF hP hS hl => lv_dup_x1 hF.1 hF.2.1 hd hv hw (kk r hr p e R s m args below meth c H locs ls hF hP hS hl)
theorem xR_ifeq (pc tgt : Nat) {x : Int32} {off : Int} {F1 F2 : Option ρ} (hd : decode (xb Y) pc = .ok (.ifCond .eq off, 3)) (ht : (pc : Int) + off = (tgt : Int)) (kt : xR G Y em tgt lv st S F1) (kf : xR G Y em (pc + 3) lv st S F2) : xR G Y em pc lv (.int x :: st) S (if x = 0 then F1 else F2) := fun r hr p e R s m args below meth c H locs ls hF hP hS hl => lv_if_eq hF.1 hF.2.1 hd ht (fun h => kt r (by rw [if_pos h] at hr; exact hr) p e R s m args below meth c H locs ls hF hP hS hl) (fun h => kf r (by rw [if_neg h] at hr; exact hr) p e R s m args below meth c H locs ls hF hP hS hl)
theorem xR_ifne (pc tgt : Nat) {x : Int32} {off : Int} {F1 F2 : Option ρ} (hd : decode (xb Y) pc = .ok (.ifCond .ne off, 3)) (ht : (pc : Int) + off = (tgt : Int)) (kt : xR G Y em tgt lv st S F1) (kf : xR G Y em (pc + 3) lv st S F2) : xR G Y em pc lv (.int x :: st) S (if x = 0 then F2 else F1) := fun r hr p e R s m args below meth c H locs ls hF hP hS hl => lv_if_ne hF.1 hF.2.1 hd ht (fun h => kt r (by rw [if_neg h] at hr; exact hr) p e R s m args below meth c H locs ls hF hP hS hl) (fun h => kf r (by rw [if_pos h] at hr; exact hr) p e R s m args below meth c H locs ls hF hP hS hl)
theorem xR_iflt (pc tgt : Nat) {x : Int32} {off : Int} {F1 F2 : Option ρ} (hd : decode (xb Y) pc = .ok (.ifCond .lt off, 3)) (ht : (pc : Int) + off = (tgt : Int)) (kt : xR G Y em tgt lv st S F1) (kf : xR G Y em (pc + 3) lv st S F2) : xR G Y em pc lv (.int x :: st) S (if x < 0 then F1 else F2) := fun r hr p e R s m args below meth c H locs ls hF hP hS hl => lv_if_lt hF.1 hF.2.1 hd ht (fun h => kt r (by rw [if_pos h] at hr; exact hr) p e R s m args below meth c H locs ls hF hP hS hl) (fun h => kf r (by rw [if_neg h] at hr; exact hr) p e R s m args below meth c H locs ls hF hP hS hl)
theorem xR_ifge (pc tgt : Nat) {x : Int32} {off : Int} {F1 F2 : Option ρ} (hd : decode (xb Y) pc = .ok (.ifCond .ge off, 3)) (ht : (pc : Int) + off = (tgt : Int)) (kt : xR G Y em tgt lv st S F1) (kf : xR G Y em (pc + 3) lv st S F2) : xR G Y em pc lv (.int x :: st) S (if 0 ≤ x then F1 else F2) := fun r hr p e R s m args below meth c H locs ls hF hP hS hl => lv_if_ge hF.1 hF.2.1 hd ht (fun h => kt r (by rw [if_pos h] at hr; exact hr) p e R s m args below meth c H locs ls hF hP hS hl) (fun h => kf r (by rw [if_neg h] at hr; exact hr) p e R s m args below meth c H locs ls hF hP hS hl)
theorem xR_ifgt (pc tgt : Nat) {x : Int32} {off : Int} {F1 F2 : Option ρ} (hd : decode (xb Y) pc = .ok (.ifCond .gt off, 3)) (ht : (pc : Int) + off = (tgt : Int)) (kt : xR G Y em tgt lv st S F1) (kf : xR G Y em (pc + 3) lv st S F2) : xR G Y em pc lv (.int x :: st) S (if 0 < x then F1 else F2) := fun r hr p e R s m args below meth c H locs ls hF hP hS hl => lv_if_gt hF.1 hF.2.1 hd ht (fun h => kt r (by rw [if_pos h] at hr; exact hr) p e R s m args below meth c H locs ls hF hP hS hl) (fun h => kf r (by rw [if_neg h] at hr; exact hr) p e R s m args below meth c H locs ls hF hP hS hl)
theorem xR_ifle (pc tgt : Nat) {x : Int32} {off : Int} {F1 F2 : Option ρ} (hd : decode (xb Y) pc = .ok (.ifCond .le off, 3)) (ht : (pc : Int) + off = (tgt : Int)) (kt : xR G Y em tgt lv st S F1) (kf : xR G Y em (pc + 3) lv st S F2) : xR G Y em pc lv (.int x :: st) S (if x ≤ 0 then F1 else F2) := fun r hr p e R s m args below meth c H locs ls hF hP hS hl => lv_if_le hF.1 hF.2.1 hd ht (fun h => kt r (by rw [if_pos h] at hr; exact hr) p e R s m args below meth c H locs ls hF hP hS hl) (fun h => kf r (by rw [if_neg h] at hr; exact hr) p e R s m args below meth c H locs ls hF hP hS hl)
theorem xR_iceq (pc tgt : Nat) {x y : Int32} {off : Int} {F1 F2 : Option ρ} (hd : decode (xb Y) pc = .ok (.if_icmp .eq off, 3)) (ht : (pc : Int) + off = (tgt : Int)) (kt : xR G Y em tgt lv st S F1) (kf : xR G Y em (pc + 3) lv st S F2) : xR G Y em pc lv (.int y :: .int x :: st) S (if x = y then F1 else F2) := fun r hr p e R s m args below meth c H locs ls hF hP hS hl => lv_icmp_eq hF.1 hF.2.1 hd ht (fun h => kt r (by rw [if_pos h] at hr; exact hr) p e R s m args below meth c H locs ls hF hP hS hl) (fun h => kf r (by rw [if_neg h] at hr; exact hr) p e R s m args below meth c H locs ls hF hP hS hl)
theorem xR_icne (pc tgt : Nat) {x y : Int32} {off : Int} {F1 F2 : Option ρ} (hd : decode (xb Y) pc = .ok (.if_icmp .ne off, 3)) (ht : (pc : Int) + off = (tgt : Int)) (kt : xR G Y em tgt lv st S F1) (kf : xR G Y em (pc + 3) lv st S F2) : xR G Y em pc lv (.int y :: .int x :: st) S (if x = y then F2 else F1) := fun r hr p e R s m args below meth c H locs ls hF hP hS hl => lv_icmp_ne hF.1 hF.2.1 hd ht (fun h => kt r (by rw [if_neg h] at hr; exact hr) p e R s m args below meth c H locs ls hF hP hS hl) (fun h => kf r (by rw [if_pos h] at hr; exact hr) p e R s m args below meth c H locs ls hF hP hS hl)
theorem xR_iclt (pc tgt : Nat) {x y : Int32} {off : Int} {F1 F2 : Option ρ} (hd : decode (xb Y) pc = .ok (.if_icmp .lt off, 3)) (ht : (pc : Int) + off = (tgt : Int)) (kt : xR G Y em tgt lv st S F1) (kf : xR G Y em (pc + 3) lv st S F2) : xR G Y em pc lv (.int y :: .int x :: st) S (if x < y then F1 else F2) := fun r hr p e R s m args below meth c H locs ls hF hP hS hl => lv_icmp_lt hF.1 hF.2.1 hd ht (fun h => kt r (by rw [if_pos h] at hr; exact hr) p e R s m args below meth c H locs ls hF hP hS hl) (fun h => kf r (by rw [if_neg h] at hr; exact hr) p e R s m args below meth c H locs ls hF hP hS hl)
theorem xR_icge (pc tgt : Nat) {x y : Int32} {off : Int} {F1 F2 : Option ρ} (hd : decode (xb Y) pc = .ok (.if_icmp .ge off, 3)) (ht : (pc : Int) + off = (tgt : Int)) (kt : xR G Y em tgt lv st S F1) (kf : xR G Y em (pc + 3) lv st S F2) : xR G Y em pc lv (.int y :: .int x :: st) S (if y ≤ x then F1 else F2) := fun r hr p e R s m args below meth c H locs ls hF hP hS hl => lv_icmp_ge hF.1 hF.2.1 hd ht (fun h => kt r (by rw [if_pos h] at hr; exact hr) p e R s m args below meth c H locs ls hF hP hS hl) (fun h => kf r (by rw [if_neg h] at hr; exact hr) p e R s m args below meth c H locs ls hF hP hS hl)
theorem xR_icgt (pc tgt : Nat) {x y : Int32} {off : Int} {F1 F2 : Option ρ} (hd : decode (xb Y) pc = .ok (.if_icmp .gt off, 3)) (ht : (pc : Int) + off = (tgt : Int)) (kt : xR G Y em tgt lv st S F1) (kf : xR G Y em (pc + 3) lv st S F2) : xR G Y em pc lv (.int y :: .int x :: st) S (if y < x then F1 else F2) := fun r hr p e R s m args below meth c H locs ls hF hP hS hl => lv_icmp_gt hF.1 hF.2.1 hd ht (fun h => kt r (by rw [if_pos h] at hr; exact hr) p e R s m args below meth c H locs ls hF hP hS hl) (fun h => kf r (by rw [if_neg h] at hr; exact hr) p e R s m args below meth c H locs ls hF hP hS hl)
theorem xR_icle (pc tgt : Nat) {x y : Int32} {off : Int} {F1 F2 : Option ρ} (hd : decode (xb Y) pc = .ok (.if_icmp .le off, 3)) (ht : (pc : Int) + off = (tgt : Int)) (kt : xR G Y em tgt lv st S F1) (kf : xR G Y em (pc + 3) lv st S F2) : xR G Y em pc lv (.int y :: .int x :: st) S (if x ≤ y then F1 else F2) := fun r hr p e R s m args below meth c H locs ls hF hP hS hl => lv_icmp_le hF.1 hF.2.1 hd ht (fun h => kt r (by rw [if_pos h] at hr; exact hr) p e R s m args below meth c H locs ls hF hP hS hl) (fun h => kf r (by rw [if_neg h] at hr; exact hr) p e R s m args below meth c H locs ls hF hP hS hl)
theorem xR_goto (pc tgt : Nat) {off : Int} (hd : decode (xb Y) pc = .ok (.goto off, 3)) (ht : (pc : Int) + off = (tgt : Int)) (kk : xR G Y em tgt lv st S F) : xR G Y em pc lv st S F := fun r hr p e R s m args below meth c H locs ls hF hP hS hl => lv_goto hF.1 hF.2.1 hd ht (kk r hr p e R s m args below meth c H locs ls hF hP hS hl)
/-- fewer locals -/
theorem xR_sub {lv' : List (Nat × Value)} (ks : List Nat) (hv : lv_pick lv ks = lv') {pc : Nat} (kk : xR G Y em pc lv' st S F) : xR G Y em pc lv st S F := fun r hr p e R s m args below meth c H locs ls hF hP hS hl => kk r hr p e R s m args below meth c H locs ls hF hP hS (lv_sub hl ks hv)
theorem xR_bind {α : Type} {g : Option α} {Kt : α → Option ρ} {pc : Nat} (h : ∀ a, g = some a → xR G Y em pc lv st S (Kt a)) : xR G Y em pc lv st S (g.bind Kt) := by
  intro r hr
  cases hg : g with
  | none => rw [hg] at hr; cases hr
  | some a => rw [hg] at hr; exact h a hg r hr
theorem xw_of {w : Cond} (h : w ∈ lw_tb) : w ∈ xw Y := List.mem_cons_of_mem _ h
/-- a divisor that may be 0 -/
def xdv (y : Int32) {ρ : Type} (F : Option ρ) : Option ρ := if y = 0 then none else F
def xdl (y : Int64) {ρ : Type} (F : Option ρ) : Option ρ := if y = 0 then none else F
theorem xR_dv {y : Int32} {pc : Nat} (h : ¬ y = 0 → xR G Y em pc lv st S F) : xR G Y em pc lv st S (xdv y F) := by
  by_cases hy : y = 0
  · unfold xdv; rw [if_pos hy]; exact xR_none
  · unfold xdv; rw [if_neg hy]; exact h hy
theorem xR_dl {y : Int64} {pc : Nat} (h : ¬ y = 0 → xR G Y em pc lv st S F) : xR G Y em pc lv st S (xdl y F) := by
  by_cases hy : y = 0
  · unfold xdl; rw [if_pos hy]; exact xR_none
  · unfold xdl; rw [if_neg hy]; exact h hy
/-- an index that may be out of its row -/
def xck (n : Nat) (i : Int32) {ρ : Type} (F : Option ρ) : Option ρ := if i < 0 ∨ n ≤ i.toNatClampNeg then none else F
theorem xR_ck {n : Nat} {i : Int32} {pc : Nat} (h : vp_in i n → xR G Y em pc lv st S F) : xR G Y em pc lv st S (xck n i F) := by
  by_cases hy : i < 0 ∨ n ≤ i.toNatClampNeg
  · unfold xck; rw [if_pos hy]; exact xR_none
  · unfold xck; rw [if_neg hy]; exact h hy
theorem xR_iald (pc k : Nat) (hk : k < 92) {n : Nat} {f : Nat → Int32} (hc : xC G S k = .inl (xI G, n, .inl f)) {i : Int32} (hd : decode (xb Y) pc = .ok (.iaload, 1)) (kk : xR G Y em (pc + 1) lv (.int (f i.toNatClampNeg) :: st) S F) : xR G Y em pc lv (.int i :: .ref (xa G k) :: st) S (xck n i F) :=
  xR_ck fun hin r hr p e R s m args below meth c H locs ls hF hP hS hl => va_iald hF.1 hF.2.1 hF.2.2.2.2.2.2.2.2.2.1.1 hP k 0 (by rw [xCL_at hk, hc]) rfl hin hd (kk r hr p e R s m args below meth c H locs ls hF hP hS hl)
theorem xR_zald (pc k : Nat) (hk : k < 92) {n : Nat} {f : Nat → Int32} (hc : xC G S k = .inl (xZ G, n, .inl f)) {i : Int32} (hd : decode (xb Y) pc = .ok (.baload, 1)) (kk : xR G Y em (pc + 1) lv (.int (f i.toNatClampNeg) :: st) S F) : xR G Y em pc lv (.int i :: .ref (xa G k) :: st) S (xck n i F) :=
  xR_ck fun hin r hr p e R s m args below meth c H locs ls hF hP hS hl => va_zald hF.1 hF.2.1 hF.2.2.2.2.2.2.2.2.2.1.1 hP k 1 (by rw [xCL_at hk, hc]) rfl hin hd (kk r hr p e R s m args below meth c H locs ls hF hP hS hl)
/-- a write of the k-th cell: what it holds behind it, all others as before -/
def xWr (G : xG) (S S' : xS) (k : Nat) (e : va_E) : Prop := xC G S' k = e ∧ ∀ j, j < 92 → j ≠ k → xC G S j = xC G S' j
theorem xWr.P {S S' : xS} {k : Nat} {e : va_E} {H : Heap} (h : xWr G S S' k e) (hk : k < 92) (hP : va_P (xD G) xcl ((xCL G S).set k (xa G k, e)) H) : va_P (xD G) xcl (xCL G S') H := by rw [xCL_set hk h.1 h.2] at hP; exact hP
theorem xR_iast (pc k : Nat) (hk : k < 92) {n : Nat} {f : Nat → Int32} (hc : xC G S k = .inl (xI G, n, .inl f)) {i x : Int32} (S' : xS) (hw : xWr G S S' k (.inl (xI G, n, .inl (upd f i.toNatClampNeg x)))) (hd : decode (xb Y) pc = .ok (.iastore, 1)) (kk : xR G Y em (pc + 1) lv st S' F) : xR G Y em pc lv (.int x :: .int i :: .ref (xa G k) :: st) S (xck n i F) :=
  xR_ck fun hin r hr p e R s m args below meth c H locs ls hF hP hS hl => va_iast hF.1 hF.2.1 hF.2.2.2.2.2.2.2.2.2.1.1 hP (xDD S hF.2.2.2.2.2.2.2.2.2.1.2.1) hS k 0 (by rw [xCL_at hk, hc]) rfl hin hd (fun H1 locs1 hP1 _ hS1 => kk r hr p e R s m args below meth c H1 locs1 ls hF (hw.P hk hP1) hS1 hl)
theorem xR_zast (pc k : Nat) (hk : k < 92) {n : Nat} {f : Nat → Int32} (hc : xC G S k = .inl (xZ G, n, .inl f)) {i x : Int32} (S' : xS) (hw : xWr G S S' k (.inl (xZ G, n, .inl (upd f i.toNatClampNeg (vp_nar .boolean x))))) (hd : decode (xb Y) pc = .ok (.bastore, 1)) (kk : xR G Y em (pc + 1) lv st S' F) : xR G Y em pc lv (.int x :: .int i :: .ref (xa G k) :: st) S (xck n i F) :=
  xR_ck fun hin r hr p e R s m args below meth c H locs ls hF hP hS hl => va_zast hF.1 hF.2.1 hF.2.2.2.2.2.2.2.2.2.1.1 hP (xDD S hF.2.2.2.2.2.2.2.2.2.1.2.1) hS k 1 (by rw [xCL_at hk, hc]) rfl hin hd (fun H1 locs1 hP1 _ hS1 => kk r hr p e R s m args below meth c H1 locs1 ls hF (hw.P hk hP1) hS1 hl)
theorem xR_alen (pc k : Nat) (hk : k < 92) {x : vp_A} (hc : xC G S k = .inl (xI G, x)) (hd : decode (xb Y) pc = .ok (.arraylength, 1)) (kk : xR G Y em (pc + 1) lv (.int (Int32.ofNat x.1) :: st) S F) : xR G Y em pc lv (.ref (xa G k) :: st) S F :=
  fun r hr p e R s m args below meth c H locs ls hF hP hS hl => va_alen hF.1 hF.2.1 hF.2.2.2.2.2.2.2.2.2.1.1 hP k 0 (by rw [xCL_at hk, hc]) rfl rfl hd (kk r hr p e R s m args below meth c H locs ls hF hP hS hl)
/-- a class: its words stand in the tables, its fields' types, its fields are its own and apart -/
def xcf (ci : Nat) (C : String) (T : u_T) (N : Nat) (ty : Nat → FieldType) : Prop := xcl[ci]? = some (C, T, N) ∧ (∀ w ∈ u_ws C T N, w ∈ lw_tb) ∧ (∀ k, k < N → parseFieldDescriptor (T k).2.2.1 = some (ty k)) ∧ (∀ a, a < N → ∀ b, b < N → a ≠ b → (T a).2.1 ≠ (T b).2.1) ∧ ∀ k, k < N → (T k).1 = C
theorem xR_getf (pc : Nat) {idx ci N : Nat} {C : String} {T : u_T} {ty : Nat → FieldType} (hcf : xcf ci C T N ty) (j k : Nat) (hj : j < N) (hk : k < 92) {fs : List Value} (hc : xC G S k = .inr (ci, fs)) {v : Value} (hv : fs[j]? = some v) (hl : Cond.fieldLink (xn Y).cls idx C (T j).2.1 (T j).2.2.1 ∈ lw_tb) (hd : decode (xb Y) pc = .ok (.getfield idx, 3)) (kk : xR G Y em (pc + 3) lv (v :: st) S F) : xR G Y em pc lv (.ref (xa G k) :: st) S F :=
  fun r hr p e R s m args below meth c H locs ls hF hP hS hlv => va_get (own := (xn Y).cls) (ref := C) (Ts := xw Y) hF.1 hF.2.1 hF.2.2.2.2.1 (fun w hw => xw_of (hcf.2.1 w hw)) hF.2.2.2.1 hF.2.2.2.2.2.2.2.2.2.1.1 hP k (by rw [xCL_at hk, hc]) hcf.1 j hj (hF.2.2.2.2.1 _ (xw_of hl)) (fun x h => by rw [hcf.2.2.2.2 j hj] at h; exact h) hv hd (kk r hr p e R s m args below meth c H locs ls hF hP hS hlv)
theorem xR_putf (pc : Nat) {idx ci N : Nat} {C : String} {T : u_T} {ty : Nat → FieldType} (hcf : xcf ci C T N ty) (j k : Nat) (hj : j < N) (hk : k < 92) {fs : List Value} (hc : xC G S k = .inr (ci, fs)) {v : Value} (hfin : (T j).2.2.2 = false) (hn : narrow (ty j) v = v) (hfit : fits (ty j) v = true) (hlen : j < fs.length) (S' : xS) (hw : xWr G S S' k (.inr (ci, fs.set j v))) (hl : Cond.fieldLink (xn Y).cls idx C (T j).2.1 (T j).2.2.1 ∈ lw_tb) (hd : decode (xb Y) pc = .ok (.putfield idx, 3)) (kk : xR G Y em (pc + 3) lv st S' F) : xR G Y em pc lv (v :: .ref (xa G k) :: st) S F :=
  fun r hr p e R s m args below meth c H locs ls hF hP hS hlv => va_put (own := (xn Y).cls) (ref := C) (Ts := xw Y) hF.1 hF.2.1 hF.2.2.2.2.1 (fun w hw => xw_of (hcf.2.1 w hw)) ty hcf.2.2.1 hcf.2.2.2.1 hF.2.2.2.1 hF.2.2.2.2.2.2.2.2.2.1.1 hP (xDD S hF.2.2.2.2.2.2.2.2.2.1.2.1) hS k (by rw [xCL_at hk, hc]) hcf.1 j hj (hF.2.2.2.2.1 _ (xw_of hl)) (fun x h => by rw [hcf.2.2.2.2 j hj] at h; exact h) hfin (hcf.2.2.1 j hj) hn hfit hlen hd (fun H1 locs1 hP1 _ hS1 => kk r hr p e R s m args below meth c H1 locs1 ls hF (hw.P hk hP1) hS1 hlv)
/-- an end with an int, a long, nothing -/
theorem xR_iret (pc : Nat) {v : Int32} {r0 : ρ} (ht : xt Y = some .int) (he : em r0 = (some (.int v), S)) (hd : decode (xb Y) pc = .ok (.ireturn, 1)) : xR G Y em pc lv [.int v] S (some r0) :=
  fun r hr p e R s m args below meth c H locs ls hF hP hS hlv => by
    cases hr
    rw [he]
    exact W.iret hF.1 hF.2.1 (hF.2.2.2.2.2.1.trans ht) (fun t h1 hW => ⟨rfl, by rw [h1]; exact hP, hS.F h1⟩) hS.2.2 hd hF.2.2.2.2.2.2.1
/-- an end with a boolean: what isn't 0 or 1 is cut to its last bit -/
def xnb (v : Int32) : Int32 := v &&& 1
theorem xW_zret {p : Program} {l : Launch} {e : Env} {R : Room} {s : State} {m : MethodId} {args : Array Value} {below : List Frame} {meth : Method} {c : Code} {H : Heap} {locs : List Loc} {cells slots : Nat} {cc : ByteArray} {Qc : Array Value → State → Outcome → State → Prop} {free : Addr → Prop} {v : Int32} (hexec : p.tables.exec = Jvm.exec) (hb : c.code = cc) (hr : meth.sig.returnType = some .boolean)
    (hq : ∀ t : State, t.heap = H → s.WarmedH t.vm → Qc args s (.returned (some (.int (xnb v)))) t) (hf : ∀ q ∈ locs, free q.base)
    {pc : Nat} {ls : Array Slot} (hdg : decode cc pc = .ok (.ireturn, 1)) (hlocks : meth.locks = false) : W p l e R s m args below meth c H locs cells slots (MQ below Qc args s cells slots free) (F0 m pc ls [.int v]) := by
  intro T hT X
  obtain ⟨fs, hret, hrun, hended, hW, hframe⟩ := X.leave (v := some (.int (xnb v))) (fun h => by rw [hr] at h; cases h)
  have hmeth' : T.vm.method? m = some meth := X.method'
  have hn : narrow .boolean (.int v) = .int (xnb v) := rfl
  refine ⟨T.setFrames fs, ?_, .returned (some (.int (xnb v))), hrun, hended, hq _ hT hW, locs, ⟨⟨_, rfl⟩, hW, hframe⟩, hf⟩
  jvm_step X.here [X.here.top, hexec, hb, hdg, hmeth', hr, hn]
  (try refine ⟨rfl, ?_⟩); (try refine ⟨rfl, ?_⟩)
  first | (intro acts; rw [hret _ acts rfl rfl rfl]) | rw [hret _ _ rfl rfl rfl]
  exact Steps.refl _
theorem xR_zret (pc : Nat) {v : Int32} {r0 : ρ} (ht : xt Y = some .boolean) (he : em r0 = (some (.int (xnb v)), S)) (hd : decode (xb Y) pc = .ok (.ireturn, 1)) : xR G Y em pc lv [.int v] S (some r0) :=
  fun r hr p e R s m args below meth c H locs ls hF hP hS hlv => by
    cases hr
    rw [he]
    exact xW_zret hF.1 hF.2.1 (hF.2.2.2.2.2.1.trans ht) (fun t h1 hW => ⟨rfl, by rw [h1]; exact hP, hS.F h1⟩) hS.2.2 hd hF.2.2.2.2.2.2.1
theorem xR_lret (pc : Nat) {v : Int64} {r0 : ρ} (ht : xt Y = some .long) (he : em r0 = (some (.long v), S)) (hd : decode (xb Y) pc = .ok (.lreturn, 1)) : xR G Y em pc lv [.long v] S (some r0) :=
  fun r hr p e R s m args below meth c H locs ls hF hP hS hlv => by
    cases hr
    rw [he]
    exact W.lret hF.1 hF.2.1 (hF.2.2.2.2.2.1.trans ht) (fun t h1 hW => ⟨rfl, by rw [h1]; exact hP, hS.F h1⟩) hS.2.2 hd hF.2.2.2.2.2.2.1
theorem xR_vret (pc : Nat) {r0 : ρ} (ht : xt Y = none) (he : em r0 = (none, S)) (hd : decode (xb Y) pc = .ok (.return_, 1)) : xR G Y em pc lv [] S (some r0) :=
  fun r hr p e R s m args below meth c H locs ls hF hP hS hlv => by
    cases hr
    rw [he]
    exact W.vret hF.1 hF.2.1 (hF.2.2.2.2.2.1.trans ht) (fun t h1 hW => ⟨rfl, by rw [h1]; exact hP, hS.F h1⟩) hS.2.2 hd hF.2.2.2.2.2.2.1

/-- a called method: its words stand in the tables; n parameters -/
def xcw (Y2 : xY) (n : Nat) : Prop := Cond.code (xn Y2) (xb Y2) (xL Y2) (xt Y2) ∈ lw_tb ∧ Cond.initialized (xn Y2).cls ∈ lw_tb ∧ ((xn Y2).cls ≠ "java/lang/invoke/MethodHandle" ∧ (xn Y2).cls ≠ "java/lang/invoke/VarHandle") ∧ (parseMethodDescriptor (xn Y2).desc).map (fun d => d.parameters.length) = some n
def xcv (Y2 : xY) (n : Nat) : Prop := xcw Y2 n ∧ Cond.instanceMethod (xn Y2) ∈ lw_tb ∧ Cond.selects (xn Y2).cls (xn Y2) (xn Y2) ∈ lw_tb
def xcs (Y2 : xY) (n : Nat) : Prop := xcw Y2 n ∧ Cond.static (xn Y2) ∈ lw_tb
theorem xw_good {Y2 : xY} {n : Nat} (h : xcw Y2 n) : GoodIn (xw Y) (xw Y2) := by
  intro w hw
  have hm : w ∈ lw_tb := by
    rcases List.mem_cons.mp hw with rfl | h1
    · exact h.1
    · exact h1
  exact ⟨xw_of hm, good_of_word (lw_tb_good w hm)⟩
theorem xblind {av : List Value} : FrameBlind (va_Pc av (fun U => va_P (xD G) xcl (xCL G S) U.heap ∧ xK G U ∧ xE G U U.heap)) := by
  intro a U g mk h
  obtain ⟨h1, h2, h3, h4⟩ := h
  exact ⟨h1, h2, h3.same (u := U) (U := U.calling g mk a) rfl, h3.2.2.2.1 U (U.calling g mk a) _ rfl h4⟩
theorem xE_at {Y : xY} {p : Program} {R : Room} {s : State} {m : MethodId} {args : Array Value} {meth : Method} {c : Code} {H : Heap} {locs : List Loc} (hF : xF G Y p R s m args meth c) (hS : va_S (xA G) s.heap H locs) : xE G s H := hF.2.2.2.2.2.2.2.2.2.1.2.2.2.2.1 s s.heap H hF.2.2.2.2.2.2.2.2.2.2 hS.2.1
theorem xpre {Y : xY} {p : Program} {R : Room} {s : State} {m : MethodId} {args : Array Value} {meth : Method} {c : Code} {H : Heap} {locs : List Loc} (hF : xF G Y p R s m args meth c) (hP : va_P (xD G) xcl (xCL G S) H) (hS : va_S (xA G) s.heap H locs) (av : List Value) : ∀ U : State, U.heap = H → s.WarmedH U.vm → va_Pc av (fun U => va_P (xD G) xcl (xCL G S) U.heap ∧ xK G U ∧ xE G U U.heap) av.toArray U :=
  fun U hU hW => ⟨rfl, by rw [hU]; exact hP, hF.2.2.2.2.2.2.2.2.2.1.warm hW, by rw [hU]; exact hF.2.2.2.2.2.2.2.2.2.1.2.2.1 s U H hW (xE_at hF hS)⟩
/-- behind a call -/
theorem xR_back {ρ2 : Type} {em2 : ρ2 → Option Value × xS} {a : ρ2} {r : ρ} {rest st0 : List Value} {pc : Nat} {Kt : Option ρ} {av : Array Value}
    {p : Program} {e : Env} {R : Room} {s : State} {m : MethodId} {args : Array Value} {below : List Frame} {meth : Method} {c : Code} {H : Heap} {locs : List Loc} {ls : Array Slot}
    (hrun : va_Run p (xl G) e R s m args below meth c H locs 0 0 0 0 (F0 m pc ls st0) rest (xQ G (em2 a).1 (em2 a).2 av) (xA G)) (kk : xR G Y em (pc + 3) lv ((em2 a).1.toList ++ rest) (em2 a).2 Kt) (hK : Kt = some r)
    (hF : xF G Y p R s m args meth c) (hS : va_S (xA G) s.heap H locs) (hl : lv_has ls (xL Y) lv) :
    W p (xl G) e R s m args below meth c H locs 0 0 (MQ below (xQ G (em r).1 (em r).2) args s 0 0 (xA G)) (F0 m pc ls st0) := by
  intro T hT X
  obtain ⟨v, st₀, t, T', L, h0, X', hL, e1, e2, ⟨hv, hP1, hFr⟩, stp⟩ := hrun T hT X
  have hv : v = (em2 a).1 := Outcome.returned.inj hv
  subst hv
  have hz := hFr.1
  have hk := hFr.2
  rw [h0] at hz hk
  obtain ⟨t2, a1, b1⟩ := kk r hK p e R s m args below meth c T'.heap (locs ++ L) ls hF (by rw [e1]; exact hP1)
    ⟨Nat.le_trans hS.1 (by rw [e1]; exact hz), fun q h1 h2 => by rw [e1, hk q (Nat.lt_of_lt_of_le h1 hS.1) h2]; exact hS.2.1 q h1 h2, fun q hq => by
      rcases List.mem_append.mp hq with h | h
      · exact hS.2.2 q h
      · exact hL q h⟩ hl T' rfl X'
  exact ⟨t2, stp t2 a1, b1⟩
/-- a call of an instance method -/
theorem xR_callV (pc : Nat) {idx n ci N : Nat} {C : String} {Tt : u_T} {ty : Nat → FieldType} {Y2 : xY} (hcv : xcv Y2 n) (hl : Cond.methodLink (xn Y).cls idx (xn Y2) ∈ lw_tb) (hroom : xf Y2 + 1 ≤ xf Y ∧ 8 + (xL Y2 + 11) + xo Y2 ≤ xo Y) (hcf : xcf ci C Tt N ty) (hC : (xn Y2).cls = C) (k : Nat) (hk : k < 92) {fs : List Value} (hc : xC G S k = .inr (ci, fs)) (As : List Value) {rest st0 : List Value} (hn : As.length = n) (hst : st0 = As.reverse ++ .ref (xa G k) :: rest) (hr8 : (rest.map fun v => v.category).sum ≤ 8) (hd : decode (xb Y) pc = .ok (.invokevirtual idx, 3))
    {ρ2 : Type} {em2 : ρ2 → Option Value × xS} {g : Option ρ2} {Kt : ρ2 → Option ρ} (hcon : ∀ a, g = some a → xCt G Y2 (.ref (xa G k) :: As) S (em2 a).1 (em2 a).2) (kk : ∀ a, xR G Y em (pc + 3) lv ((em2 a).1.toList ++ rest) (em2 a).2 (Kt a)) : xR G Y em pc lv st0 S (g.bind Kt) := by
  intro r hr p e R s m args below meth c H locs ls hF hP hS hlv
  cases hg : g with
  | none => rw [hg] at hr; cases hr
  | some a =>
    rw [hg] at hr
    have hK : Kt a = some r := hr
    obtain ⟨hx, hb, hml, hown, hts, hret, hlk, hfr, hlo, hKK, hE⟩ := id hF
    have hG := xw_good (Y := Y) hcv.1
    have tb : ∀ w ∈ lw_tb, w.before args s = true := fun w hw => hts w (xw_of hw)
    have cb : CallB R s args (xn Y).cls idx (xn Y2) (xb Y2) (xL Y2) (xt Y2) (xw Y2) (xrm Y2) 0 0 n := callB_of n hts hG rfl rfl rfl (tb _ hcv.1.2.1) (tb _ hl) ⟨hcv.1.2.2.1.1, hcv.1.2.2.1.2, hcv.1.2.2.2⟩ ⟨Nat.le_trans hroom.1 hfr, Nat.le_trans hroom.2 hlo⟩
    exact xR_back (va_runV (As := As) (rest := rest) (C := C) (b := xa G k) ⟨hx, hb, hml, hown, hts⟩ (hcon a hg) ⟨cb, tb _ hcv.2.1, by rw [← hC]; exact tb _ hcv.2.2⟩ ⟨xblind, va_recv hKK.1 hP hcf.1 (by rw [xCL_at hk, hc]), xpre hF hP hS _⟩ rfl hn hlv.1 hst (lv_room hr8) hd ⟨Nat.zero_le _, Nat.zero_le _⟩) (kk a) hK hF hS hlv
/-- a call of a static method -/
theorem xR_callS (pc : Nat) {idx n : Nat} {Y2 : xY} (hcs : xcs Y2 n) (hl : Cond.methodLink (xn Y).cls idx (xn Y2) ∈ lw_tb) (hroom : xf Y2 + 1 ≤ xf Y ∧ 8 + (xL Y2 + 11) + xo Y2 ≤ xo Y) (As : List Value) {rest st0 : List Value} (hn : As.length = n) (hst : st0 = As.reverse ++ rest) (hr8 : (rest.map fun v => v.category).sum ≤ 8) (hd : decode (xb Y) pc = .ok (.invokestatic idx, 3))
    {ρ2 : Type} {em2 : ρ2 → Option Value × xS} {g : Option ρ2} {Kt : ρ2 → Option ρ} (hcon : ∀ a, g = some a → xCt G Y2 As S (em2 a).1 (em2 a).2) (kk : ∀ a, xR G Y em (pc + 3) lv ((em2 a).1.toList ++ rest) (em2 a).2 (Kt a)) : xR G Y em pc lv st0 S (g.bind Kt) := by
  intro r hr p e R s m args below meth c H locs ls hF hP hS hlv
  cases hg : g with
  | none => rw [hg] at hr; cases hr
  | some a =>
    rw [hg] at hr
    have hK : Kt a = some r := hr
    obtain ⟨hx, hb, hml, hown, hts, hret, hlk, hfr, hlo, hKK, hE⟩ := id hF
    have hG := xw_good (Y := Y) hcs.1
    have tb : ∀ w ∈ lw_tb, w.before args s = true := fun w hw => hts w (xw_of hw)
    have cb : CallB R s args (xn Y).cls idx (xn Y2) (xb Y2) (xL Y2) (xt Y2) (xw Y2) (xrm Y2) 0 0 n := callB_of n hts hG rfl rfl rfl (tb _ hcs.1.2.1) (tb _ hl) ⟨hcs.1.2.2.1.1, hcs.1.2.2.1.2, hcs.1.2.2.2⟩ ⟨Nat.le_trans hroom.1 hfr, Nat.le_trans hroom.2 hlo⟩
    exact xR_back (va_runS (As := As) (rest := rest) ⟨hx, hb, hml, hown, hts⟩ (hcon a hg) ⟨cb, tb _ hcs.2⟩ ⟨xblind, xpre hF hP hS _⟩ rfl hn hlv.1 hst (lv_room hr8) hd ⟨Nat.zero_le _, Nat.zero_le _⟩) (kk a) hK hF hS hlv
/-- a call of a nest mate's private static method -/
theorem xR_callSN (pc : Nat) {idx n : Nat} {host : String} {Y2 : xY} (hcs : xcs Y2 n) (hl : ((xn Y).cls, idx, xn Y2, host) ∈ xnl) (hroom : xf Y2 + 1 ≤ xf Y ∧ 8 + (xL Y2 + 11) + xo Y2 ≤ xo Y) (As : List Value) {rest st0 : List Value} (hn : As.length = n) (hst : st0 = As.reverse ++ rest) (hr8 : (rest.map fun v => v.category).sum ≤ 8) (hd : decode (xb Y) pc = .ok (.invokestatic idx, 3))
    {ρ2 : Type} {em2 : ρ2 → Option Value × xS} {g : Option ρ2} {Kt : ρ2 → Option ρ} (hcon : ∀ a, g = some a → xCt G Y2 As S (em2 a).1 (em2 a).2) (kk : ∀ a, xR G Y em (pc + 3) lv ((em2 a).1.toList ++ rest) (em2 a).2 (Kt a)) : xR G Y em pc lv st0 S (g.bind Kt) := by
  intro r hr p e R s m args below meth c H locs ls hF hP hS hlv
  cases hg : g with
  | none => rw [hg] at hr; cases hr
  | some a =>
    rw [hg] at hr
    have hK : Kt a = some r := hr
    obtain ⟨hx, hb, hml, hown, hts, hret, hlk, hfr, hlo, hKK, hE⟩ := id hF
    have hG := xw_good (Y := Y) hcs.1
    have tb : ∀ w ∈ lw_tb, w.before args s = true := fun w hw => hts w (xw_of hw)
    have cb : va_CN R s args (xn Y).cls idx (xn Y2) host (xb Y2) (xL Y2) (xt Y2) (xw Y2) (xrm Y2) 0 0 n := va_cnB n hts hG rfl rfl rfl (hKK.2.2.2.2.2.1 _ hl) (tb _ hcs.1.2.1) ⟨hcs.1.2.2.1.1, hcs.1.2.2.1.2, hcs.1.2.2.2⟩ ⟨Nat.le_trans hroom.1 hfr, Nat.le_trans hroom.2 hlo⟩
    exact xR_back (va_runSN (As := As) (rest := rest) ⟨hx, hb, hml, hown, hts⟩ (hcon a hg) ⟨cb, tb _ hcs.2, trivial⟩ ⟨xblind, xpre hF hP hS _⟩ rfl hn hlv.1 hst (lv_room hr8) hd ⟨Nat.zero_le _, Nat.zero_le _⟩) (kk a) hK hF hS hlv
end XR
