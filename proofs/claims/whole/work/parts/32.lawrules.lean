/-! THE CLAIM OUT OF ONE WALK OF THE LAW'S BODY. Your part is whole_start (and what it stands on); all else here is the same for every law, but numbers. -/
def R_law : String := "HouseFiddlesLaw"
def lw_P (b : Addr) (xs : List Int32) (args : Array Value) (s : State) : Prop := args = #[.ref b] ∧ s.IntsAt b xs ∧ xs.length ≤ 3584 ∧ (Jvm.Cond.and given_1 narrow_1).before args s = true
def lw_Q (_ : Array Value) (s : State) (o : Outcome) (t : State) : Prop := o = .returned (some (.int 1)) ∧ Framed s o t [] 600000 7302250
def lw_Z (below : List Frame) (a : Array Value) (s : State) : State → Prop := fun t => ∃ o, t.status = .running ∧ Ended t below o ∧ lw_Q a s o t
/-- the law's own end, with 1 on the stack, nothing written that was there before, its room as the claim has it -/
theorem lw_ret {p : Program} {l : Launch} {e : Env} {s : State} {m : MethodId} {below : List Frame} {meth : Method} {c : Code} {b : Nat} (hx : p.tables.exec = Jvm.exec) (hb : c.code = code) (hr : meth.sig.returnType = ret) (hlocks : meth.locks = false) {pc : Nat} {H : Heap} {ls : Array Slot} (hdg : decode code pc = .ok (.ireturn, 1)) : W p l e room_1 s m #[Value.ref b] below meth c H [] 600000 7302250 (lw_Z below #[Value.ref b] s) (F0 m pc ls [.int 1]) := by
  intro T hT X
  obtain ⟨fs, hret, hrun, hended, hW, hframe⟩ := X.leave (v := some (.int 1)) (hlocks := hlocks) (fun h => by rw [hr] at h; cases h)
  have hmeth' : T.vm.method? m = some meth := X.method'
  refine ⟨T.setFrames fs, ?_, .returned (some (.int 1)), hrun, hended, rfl, ⟨_, rfl⟩, hW, hframe⟩
  jvm_step X.here [X.here.top, hx, hb, hdg, hmeth', hr, ret, narrow_b1]
  (try refine ⟨rfl, ?_⟩); (try refine ⟨rfl, ?_⟩)
  first | (intro acts; rw [hret _ acts rfl rfl rfl]) | rw [hret _ _ rfl rfl rfl]
  exact Steps.refl _
/-- what holds at the law's entry: the machine, the code, the tables' words (any of lw_tbl by 'hts w (by decide +kernel)'), the script of L ints xs at the cell b, what the Statement gives of the start (any of its parts by flat_of_before) -/
def lw_At (p : Program) (s : State) (m : MethodId) (meth : Method) (c : Code) (b L : Nat) (xs : Nat → Int32) : Prop :=
  p.tables.exec = Jvm.exec ∧ c.code = code ∧ meth.sig.returnType = ret ∧ c.maxLocals = 4 ∧ s.vm.findClass R_law = some m.cls ∧ (∀ w ∈ lw_tbl, w.before #[Value.ref b] s = true) ∧ va_X b L xs s s.heap ∧ b < s.heap.size ∧ meth.locks = false ∧ (Jvm.Cond.and given_1 narrow_1).before #[Value.ref b] s = true
/-! THE LAW: rows over its own walk (written by gen_law.py) -/
/-- what holds in the law's frame -/
def lCx (p : Program) (e : Env) (s : State) (m : MethodId) (below : List Frame) (meth : Method) (c : Code) (b L : Nat) (xs : Nat → Int32) (G : xG) : Prop := lw_At p s m meth c b L xs ∧ L ≤ 3584 ∧ xK G s ∧ xE G s s.heap ∧ ∀ k, k < 92 → s.heap.size ≤ xa G k
def lR (p : Program) (e : Env) (s : State) (m : MethodId) (below : List Frame) (meth : Method) (c : Code) (b : Nat) (G : xG) (pc : Nat) (lv : List (Nat × Value)) (st : List Value) (S : xS) : Prop :=
  ∀ (H : Heap) (locs : List Loc) (ls : Array Slot), va_P (xD G) xcl (xCL G S) H → va_S (fun q : Nat => s.heap.size ≤ q) s.heap H locs → lv_has ls 4 lv → W p (xl G) e room_1 s m #[Value.ref b] below meth c H locs 92 4791 (lw_Z below #[Value.ref b] s) (F0 m pc ls st)
section LR
variable {p : Program} {e : Env} {s : State} {m : MethodId} {below : List Frame} {meth : Method} {c : Code} {b L : Nat} {xs : Nat → Int32} {G : xG} {lv : List (Nat × Value)} {st : List Value} {S : xS}
theorem lR_ic (hC : lCx p e s m below meth c b L xs G) (pc : Nat) {n : Int} (v : Int32) (hd : decode code pc = .ok (.iconst n, 1)) (hv : Int32.ofInt n = v) (kk : lR p e s m below meth c b G (pc + 1) lv (.int v :: st) S) : lR p e s m below meth c b G pc lv (st) S := fun H locs ls hP hS hl => lv_iconst hC.1.1 hC.1.2.1 hd hv (kk H locs ls hP hS hl)
theorem lR_bp (hC : lCx p e s m below meth c b L xs G) (pc : Nat) {n : Int} (v : Int32) (hd : decode code pc = .ok (.bipush n, 2)) (hv : (Int8.ofInt n).toInt32 = v) (kk : lR p e s m below meth c b G (pc + 2) lv (.int v :: st) S) : lR p e s m below meth c b G pc lv (st) S := fun H locs ls hP hS hl => lv_bipush hC.1.1 hC.1.2.1 hd hv (kk H locs ls hP hS hl)
theorem lR_iln (hC : lCx p e s m below meth c b L xs G) (pc : Nat) {k : Fin 4} {i : Nat} {x : Int32} (j : Nat) (hd : decode code pc = .ok (.iload_n k, 1)) (hi : (k : Nat) = i) (hj : lv[j]? = some (i, .int x)) (kk : lR p e s m below meth c b G (pc + 1) lv (.int x :: st) S) : lR p e s m below meth c b G pc lv (st) S := fun H locs ls hP hS hl => lv_iload_n hC.1.1 hC.1.2.1 hd hi (lv_at hl j hj) (kk H locs ls hP hS hl)
theorem lR_aln (hC : lCx p e s m below meth c b L xs G) (pc : Nat) {k : Fin 4} {i : Nat} {x : Nat} (j : Nat) (hd : decode code pc = .ok (.aload_n k, 1)) (hi : (k : Nat) = i) (hj : lv[j]? = some (i, .ref x)) (kk : lR p e s m below meth c b G (pc + 1) lv (.ref x :: st) S) : lR p e s m below meth c b G pc lv (st) S := fun H locs ls hP hS hl => lv_aload_n hC.1.1 hC.1.2.1 hd hi (lv_at hl j hj) (kk H locs ls hP hS hl)
theorem lR_iadd (hC : lCx p e s m below meth c b L xs G) (pc : Nat) {x y : Int32} (hd : decode code pc = .ok (.iadd, 1))  (kk : lR p e s m below meth c b G (pc + 1) lv (.int (x + y) :: st) S) : lR p e s m below meth c b G pc lv (.int y :: .int x :: st) S := fun H locs ls hP hS hl => lv_iadd hC.1.1 hC.1.2.1 hd  (kk H locs ls hP hS hl)
theorem lR_isub (hC : lCx p e s m below meth c b L xs G) (pc : Nat) {x y : Int32} (hd : decode code pc = .ok (.isub, 1))  (kk : lR p e s m below meth c b G (pc + 1) lv (.int (x - y) :: st) S) : lR p e s m below meth c b G pc lv (.int y :: .int x :: st) S := fun H locs ls hP hS hl => lv_isub hC.1.1 hC.1.2.1 hd  (kk H locs ls hP hS hl)
theorem lR_iand (hC : lCx p e s m below meth c b L xs G) (pc : Nat) {x y : Int32} (hd : decode code pc = .ok (.iand, 1))  (kk : lR p e s m below meth c b G (pc + 1) lv (.int (x &&& y) :: st) S) : lR p e s m below meth c b G pc lv (.int y :: .int x :: st) S := fun H locs ls hP hS hl => lv_iand hC.1.1 hC.1.2.1 hd  (kk H locs ls hP hS hl)
theorem lR_lcmp (hC : lCx p e s m below meth c b L xs G) (pc : Nat) {x y : Int64} (hd : decode code pc = .ok (.lcmp, 1))  (kk : lR p e s m below meth c b G (pc + 1) lv (.int (lg_cmp x y) :: st) S) : lR p e s m below meth c b G pc lv (.long y :: .long x :: st) S := fun H locs ls hP hS hl => W.lcmp hC.1.1 hC.1.2.1 hd  (kk H locs ls hP hS hl)
theorem lR_sub (ks : List Nat) {lv' : List (Nat × Value)} (hv : lv_pick lv ks = lv') {pc : Nat} (kk : lR p e s m below meth c b G pc lv' st S) : lR p e s m below meth c b G pc lv st S := fun H locs ls hP hS hl => kk H locs ls hP hS (lv_sub hl ks hv)
theorem lR_iinc (hC : lCx p e s m below meth c b L xs G) (pc : Nat) {i : Nat} {n : Int} {x : Int32} (j : Nat) (v : Int32) (lv' : List (Nat × Value)) (hd : decode code pc = .ok (.iinc i n, 3)) (hj : lv[j]? = some (i, .int x)) (hx : x + Int32.ofInt n = v) (hn : i < 4) (hv : (i, Value.int v) :: lv.filter (fun q => !(q.1 == i) && !(q.1 + 1 == i && q.2.category == 2)) = lv') (kk : lR p e s m below meth c b G (pc + 3) lv' st S) : lR p e s m below meth c b G pc lv st S := fun H locs ls hP hS hl => lv_iinc hC.1.1 hC.1.2.1 hd hl hj hx hn hv (fun ls hl => kk H locs ls hP hS hl)
theorem lR_goto (hC : lCx p e s m below meth c b L xs G) (pc tgt : Nat) {off : Int} (hd : decode code pc = .ok (.goto off, 3)) (ht : (pc : Int) + off = (tgt : Int)) (kk : lR p e s m below meth c b G tgt lv st S) : lR p e s m below meth c b G pc lv st S := fun H locs ls hP hS hl => lv_goto hC.1.1 hC.1.2.1 hd ht (kk H locs ls hP hS hl)
theorem lR_iceq (hC : lCx p e s m below meth c b L xs G) (pc tgt : Nat) {x y : Int32} {off : Int} (hd : decode code pc = .ok (.if_icmp .eq off, 3)) (ht : (pc : Int) + off = (tgt : Int)) (h : x = y) (kk : lR p e s m below meth c b G tgt lv st S) : lR p e s m below meth c b G pc lv (.int y :: .int x :: st) S := fun H locs ls hP hS hl => lv_icmp_eq hC.1.1 hC.1.2.1 hd ht (fun _ => kk H locs ls hP hS hl) (fun z => absurd h z)
theorem lR_ifeq (hC : lCx p e s m below meth c b L xs G) (pc tgt : Nat) {x : Int32} {off : Int} (hd : decode code pc = .ok (.ifCond .eq off, 3)) (ht : (pc : Int) + off = (tgt : Int)) (h : x = 0) (kk : lR p e s m below meth c b G tgt lv st S) : lR p e s m below meth c b G pc lv (.int x :: st) S := fun H locs ls hP hS hl => lv_if_eq hC.1.1 hC.1.2.1 hd ht (fun _ => kk H locs ls hP hS hl) (fun z => absurd h z)
theorem lR_icgt (hC : lCx p e s m below meth c b L xs G) (pc tgt : Nat) {x y : Int32} {off : Int} (hd : decode code pc = .ok (.if_icmp .gt off, 3)) (ht : (pc : Int) + off = (tgt : Int)) (kt : y < x → lR p e s m below meth c b G tgt lv st S) (kf : ¬ y < x → lR p e s m below meth c b G (pc + 3) lv st S) : lR p e s m below meth c b G pc lv (.int y :: .int x :: st) S := fun H locs ls hP hS hl => lv_icmp_gt hC.1.1 hC.1.2.1 hd ht (fun h => kt h H locs ls hP hS hl) (fun h => kf h H locs ls hP hS hl)
theorem lR_tsw (hC : lCx p e s m below meth c b L xs G) (pc tgt : Nat) {dflt lo hi : Int} {offs : Array Int} {len : Nat} {x : Int32} (v : Int32) {off : Int} (hd : decode code pc = .ok (.tableswitch dflt lo hi offs, len)) (h1 : ¬ v.toInt < lo) (h2 : ¬ hi < v.toInt) (ho : offs[(v.toInt - lo).toNat]? = some off) (ht : (pc : Int) + off = (tgt : Int)) (kk : lR p e s m below meth c b G tgt lv st S) (kf : ¬ x = v → lR p e s m below meth c b G pc lv (.int x :: st) S) : lR p e s m below meth c b G pc lv (.int x :: st) S := by
  by_cases hx : x = v
  · subst hx
    exact fun H locs ls hP hS hl => lv_tableIn hC.1.1 hC.1.2.1 hd h1 h2 ho ht (kk H locs ls hP hS hl)
  · exact kf hx
theorem lR_tso (hC : lCx p e s m below meth c b L xs G) (pc tgt : Nat) {dflt lo hi : Int} {offs : Array Int} {len : Nat} {x : Int32} (hd : decode code pc = .ok (.tableswitch dflt lo hi offs, len)) (h : x.toInt < lo ∨ hi < x.toInt) (ht : (pc : Int) + dflt = (tgt : Int)) (kk : lR p e s m below meth c b G tgt lv st S) : lR p e s m below meth c b G pc lv (.int x :: st) S := fun H locs ls hP hS hl => lv_tableOut hC.1.1 hC.1.2.1 hd h ht (kk H locs ls hP hS hl)
theorem lCx_b (hC : lCx p e s m below meth c b L xs G) : ¬ (fun q : Nat => s.heap.size ≤ q) b := Nat.not_le.mpr hC.1.2.2.2.2.2.2.2.1
/-- the script, its length -/
theorem lR_sld (hC : lCx p e s m below meth c b L xs G) (pc : Nat) {i : Int32} (hin : vp_in i L) (hd : decode code pc = .ok (.iaload, 1)) (kk : lR p e s m below meth c b G (pc + 1) lv (.int (xs i.toNatClampNeg) :: st) S) : lR p e s m below meth c b G pc lv (.int i :: .ref b :: st) S := fun H locs ls hP hS hl => va_sld hC.1.1 hC.1.2.1 hC.1.2.2.2.2.2.2.1 hC.1.2.2.2.2.2.2.2.1 (lCx_b hC) hS hin hd (kk H locs ls hP hS hl)
theorem lR_slen (hC : lCx p e s m below meth c b L xs G) (pc : Nat) (hd : decode code pc = .ok (.arraylength, 1)) (kk : lR p e s m below meth c b G (pc + 1) lv (.int (Int32.ofNat L) :: st) S) : lR p e s m below meth c b G pc lv (.ref b :: st) S := fun H locs ls hP hS hl => va_slen hC.1.1 hC.1.2.1 hC.1.2.2.2.2.2.2.1 hC.1.2.2.2.2.2.2.2.1 (lCx_b hC) hS hd (kk H locs ls hP hS hl)
theorem lR_ret (hC : lCx p e s m below meth c b L xs G) (pc : Nat) (hd : decode code pc = .ok (.ireturn, 1)) : lR p e s m below meth c b G pc lv [.int 1] S := fun H locs ls hP hS hl => va_forget (fun q hq => hS.2.2 q hq) (W.widen (k := 600000) (n := 7302250) (Nat.le_of_ble_eq_true rfl) (Nat.le_of_ble_eq_true rfl) (lw_ret hC.1.1 hC.1.2.1 hC.1.2.2.1 hC.1.2.2.2.2.2.2.2.2.1 hd))
theorem lpre (hC : lCx p e s m below meth c b L xs G) {H : Heap} {locs : List Loc} (hP : va_P (xD G) xcl (xCL G S) H) (hS : va_S (fun q : Nat => s.heap.size ≤ q) s.heap H locs) (av : List Value) : ∀ U : State, U.heap = H → s.WarmedH U.vm → va_Pc av (fun U => va_P (xD G) xcl (xCL G S) U.heap ∧ xK G U ∧ xE G U U.heap) av.toArray U :=
  fun U hU hW => ⟨rfl, by rw [hU]; exact hP, hC.2.2.1.warm hW, by
    rw [hU]
    refine hC.2.2.1.2.2.1 s U H hW (hC.2.2.1.2.2.2.2.1 s s.heap H hC.2.2.2.1 (fun q h1 h2 => hS.2.1 q h1 (fun h => absurd h1 (Nat.not_lt.mpr h))))⟩
/-- a call of one of the two objects -/
theorem lR_call (hC : lCx p e s m below meth c b L xs G) (pc : Nat) {idx n ci N : Nat} {C : String} {Tt : u_T} {ty : Nat → FieldType} {Y2 : xY} (hcv : xcv Y2 n) (hl : Cond.methodLink R_law idx (xn Y2) ∈ lw_tb) (hroom : xf Y2 + 1 ≤ 13 ∧ 8 + (xL Y2 + 11) + xo Y2 ≤ 490) (hcf : xcf ci C Tt N ty) (hCC : (xn Y2).cls = C) (k : Nat) (hk : k < 92) {fs : List Value} (hc : xC G S k = .inr (ci, fs)) (As : List Value) {rest st0 : List Value} (hn : As.length = n) (hst : st0 = As.reverse ++ .ref (xa G k) :: rest) (hr8 : (rest.map fun v => v.category).sum ≤ 8) (hd : decode code pc = .ok (.invokevirtual idx, 3))
    {r : Option Value} {S2 : xS} (hcon : xCt G Y2 (.ref (xa G k) :: As) S r S2) (kk : lR p e s m below meth c b G (pc + 3) lv (r.toList ++ rest) S2) : lR p e s m below meth c b G pc lv st0 S := by
  intro H locs ls hP hS hlv
  obtain ⟨⟨hx, hb, hret, hml, hown, hts, hX, hbl, hlk, hgv⟩, hL, hKK, hE, hfresh⟩ := id hC
  have tb : ∀ w ∈ lw_tb, w.before #[Value.ref b] s = true := fun w hw => hts w (List.mem_filter.mp hw).1
  have hG : GoodIn lw_tb (xw Y2) := by
    intro w hw
    have hm : w ∈ lw_tb := by
      rcases List.mem_cons.mp hw with rfl | h1
      · exact hcv.1.1
      · exact h1
    exact ⟨hm, good_of_word (lw_tb_good w hm)⟩
  have cb : CallB room_1 s #[Value.ref b] R_law idx (xn Y2) (xb Y2) (xL Y2) (xt Y2) (xw Y2) (xrm Y2) 0 0 n := callB_of n tb hG rfl rfl rfl (tb _ hcv.1.2.1) (tb _ hl) ⟨hcv.1.2.2.1.1, hcv.1.2.2.1.2, hcv.1.2.2.2⟩ hroom
  have hrun := va_runV (p := p) (l := xl G) (e := e) (R := room_1) (below := below) (meth := meth) (H := H) (locs := locs) (cells := 92) (slots := 4791) (g := F0 m pc ls st0) (As := As) (rest := rest) (C := C) (b := xa G k) (nL := 4) ⟨hx, hb, hml, hown, tb⟩ hcon ⟨cb, tb _ hcv.2.1, by rw [← hCC]; exact tb _ hcv.2.2⟩ ⟨xblind, va_recv hKK.1 hP hcf.1 (by rw [xCL_at hk, hc]), lpre hC hP hS _⟩ rfl hn hlv.1 hst (lv_room hr8) hd ⟨Nat.le_of_ble_eq_true rfl, Nat.le_of_ble_eq_true rfl⟩
  intro T hT X
  obtain ⟨v, st₀, t, T', L', h0, X', hL', e1, e2, ⟨hv, hP1, hFr⟩, stp⟩ := hrun T hT X
  have hv : v = r := Outcome.returned.inj hv
  subst hv
  have hz := hFr.1
  have hk' := hFr.2
  rw [h0] at hz hk'
  have hsub : ∀ q, xA G q → s.heap.size ≤ q := fun q hq => by
    obtain ⟨k, hk, rfl⟩ := hq
    exact hfresh k hk
  obtain ⟨t2, a1, b1⟩ := kk T'.heap (locs ++ L') ls (by rw [e1]; exact hP1)
    ⟨Nat.le_trans hS.1 (by rw [e1]; exact hz), fun q h1 h2 => by rw [e1, hk' q (Nat.lt_of_lt_of_le h1 hS.1) (fun z => h2 (hsub q z))]; exact hS.2.1 q h1 h2, fun q hq => by
      rcases List.mem_append.mp hq with h | h
      · exact hS.2.2 q h
      · exact hsub _ (hL' q h)⟩ hlv T' rfl X'
  exact ⟨t2, stp t2 a1, b1⟩
end LR
